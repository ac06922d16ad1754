/-! the stretches of the reference -/
set_option maxRecDepth 20000 in
theorem s_MO_measures_0 (Y : List kd) (d : Nat) (t : Nat) (σ : sS) (Q : Option sv → sS → Prop)
    (h : Jd Y (d + 1) y_MO_measures 7 [(0, sR t (.inl 6)), (1, sI ((σ t 6) - 1))] [] σ Q) :
    Jd Y (d + 1) y_MO_measures 0 [(0, sR t (.inl 6))] [] σ Q :=
  blk_ok (d := (d + 1)) (y := y_MO_measures) (ft := ft_MO) (ct := ct_MO) (tab := tab_MO_measures) ⟨tk_MO_measures, ft_MO_ok, ct_MO_ok Y⟩ [(7, [0, 1]), (17, [0, 1, 2, 3]), (65, [0, 1]), (79, [0, 1, 2, 3]), (125, [0, 1, 2, 3])] 97 0 _ _ σ h
set_option maxRecDepth 20000 in
theorem s_MO_measures_7 (Y : List kd) (d : Nat) (t : Nat) (v1 : Int32) (σ : sS) (Q : Option sv → sS → Prop)
    (h : ((v1 < 0 → (vp_in 0 21 ∧ Jd Y (d + 1) y_MO_measures 65 [(0, sR t (.inl 6)), (1, sI 0)] [] (up σ (t + 6) (Int32.toNatClampNeg 0) 0) Q)) ∧ (¬ v1 < 0 → Jd Y (d + 1) y_MO_measures 17 [(0, sR t (.inl 6)), (1, sI v1), (2, sI (v1 + 1)), (3, sI 0)] [] σ Q))) :
    Jd Y (d + 1) y_MO_measures 7 [(0, sR t (.inl 6)), (1, sI v1)] [] σ Q :=
  blk_ok (d := (d + 1)) (y := y_MO_measures) (ft := ft_MO) (ct := ct_MO) (tab := tab_MO_measures) ⟨tk_MO_measures, ft_MO_ok, ct_MO_ok Y⟩ [(7, [0, 1]), (17, [0, 1, 2, 3]), (65, [0, 1]), (79, [0, 1, 2, 3]), (125, [0, 1, 2, 3])] 97 7 _ _ σ h
set_option maxRecDepth 20000 in
theorem s_MO_measures_17 (Y : List kd) (d : Nat) (t : Nat) (v1 : Int32) (v2 : Int32) (v3 : Int32) (σ : sS) (Q : Option sv → sS → Prop)
    (h : CJ Y d y_MO_many [sR t (.inl 6), sI v1] σ (rI fun r1 σ1 => ((¬ v3 < r1 → (vp_in v1 21 ∧ Jd Y (d + 1) y_MO_measures 7 [(0, sR t (.inl 6)), (1, sI (v1 + (-1)))] [] (up σ1 (t + 5) (Int32.toNatClampNeg v1) (v2 - v1)) Q)) ∧ (v3 < r1 → (vp_in v2 21 ∧ Jd Y (d + 1) y_MO_measures 17 [(0, sR t (.inl 6)), (1, sI v1), (2, sI (v2 + (σ1 (t + 5) (Int32.toNatClampNeg v2)))), (3, sI (v3 + 1))] [] σ1 Q))))) :
    Jd Y (d + 1) y_MO_measures 17 [(0, sR t (.inl 6)), (1, sI v1), (2, sI v2), (3, sI v3)] [] σ Q :=
  blk_ok (d := (d + 1)) (y := y_MO_measures) (ft := ft_MO) (ct := ct_MO) (tab := tab_MO_measures) ⟨tk_MO_measures, ft_MO_ok, ct_MO_ok Y⟩ [(7, [0, 1]), (17, [0, 1, 2, 3]), (65, [0, 1]), (79, [0, 1, 2, 3]), (125, [0, 1, 2, 3])] 97 17 _ _ σ h
set_option maxRecDepth 20000 in
theorem s_MO_measures_65 (Y : List kd) (d : Nat) (t : Nat) (v1 : Int32) (σ : sS) (Q : Option sv → sS → Prop)
    (h : ((¬ v1 < (σ t 6) → Q none σ) ∧ (v1 < (σ t 6) → Jd Y (d + 1) y_MO_measures 79 [(0, sR t (.inl 6)), (1, sI v1), (2, sI (v1 + 1)), (3, sI 0)] [] σ Q))) :
    Jd Y (d + 1) y_MO_measures 65 [(0, sR t (.inl 6)), (1, sI v1)] [] σ Q :=
  blk_ok (d := (d + 1)) (y := y_MO_measures) (ft := ft_MO) (ct := ct_MO) (tab := tab_MO_measures) ⟨tk_MO_measures, ft_MO_ok, ct_MO_ok Y⟩ [(7, [0, 1]), (17, [0, 1, 2, 3]), (65, [0, 1]), (79, [0, 1, 2, 3]), (125, [0, 1, 2, 3])] 97 65 _ _ σ h
set_option maxRecDepth 20000 in
theorem s_MO_measures_79 (Y : List kd) (d : Nat) (t : Nat) (v1 : Int32) (v2 : Int32) (v3 : Int32) (σ : sS) (Q : Option sv → sS → Prop)
    (h : CJ Y d y_MO_many [sR t (.inl 6), sI v1] σ (rI fun r1 σ1 => ((¬ v3 < r1 → Jd Y (d + 1) y_MO_measures 65 [(0, sR t (.inl 6)), (1, sI (v1 + 1))] [] σ1 Q) ∧ (v3 < r1 → (vp_in v1 21 ∧ (vp_in v1 21 ∧ ((¬ (σ1 (t + 2) (Int32.toNatClampNeg v1)) = 3 → (vp_in v2 21 ∧ Jd Y (d + 1) y_MO_measures 125 [(0, sR t (.inl 6)), (1, sI v1), (2, sI v2), (3, sI v3)] [sI (σ1 (t + 4) (Int32.toNatClampNeg v2)), sI (10 * (σ1 (t + 6) (Int32.toNatClampNeg v1))), sI v2, sR (t + 6) (.inr 21)] σ1 Q)) ∧ ((σ1 (t + 2) (Int32.toNatClampNeg v1)) = 3 → Jd Y (d + 1) y_MO_measures 125 [(0, sR t (.inl 6)), (1, sI v1), (2, sI v2), (3, sI v3)] [sI (6 + v3), sI (10 * (σ1 (t + 6) (Int32.toNatClampNeg v1))), sI v2, sR (t + 6) (.inr 21)] σ1 Q)))))))) :
    Jd Y (d + 1) y_MO_measures 79 [(0, sR t (.inl 6)), (1, sI v1), (2, sI v2), (3, sI v3)] [] σ Q :=
  blk_ok (d := (d + 1)) (y := y_MO_measures) (ft := ft_MO) (ct := ct_MO) (tab := tab_MO_measures) ⟨tk_MO_measures, ft_MO_ok, ct_MO_ok Y⟩ [(7, [0, 1]), (17, [0, 1, 2, 3]), (65, [0, 1]), (79, [0, 1, 2, 3]), (125, [0, 1, 2, 3])] 97 79 _ _ σ h
set_option maxRecDepth 20000 in
theorem s_MO_measures_125 (Y : List kd) (d : Nat) (t : Nat) (v1 : Int32) (v2 : Int32) (v3 : Int32) (s0 : Int32) (s1 : Int32) (s2 : Int32) (b3 : Nat) (σ : sS) (Q : Option sv → sS → Prop)
    (h : (vp_in s2 21 ∧ (vp_in v2 21 ∧ Jd Y (d + 1) y_MO_measures 79 [(0, sR t (.inl 6)), (1, sI v1), (2, sI (v2 + ((up σ b3 (Int32.toNatClampNeg s2) (s1 + s0)) (t + 5) (Int32.toNatClampNeg v2)))), (3, sI (v3 + 1))] [] (up σ b3 (Int32.toNatClampNeg s2) (s1 + s0)) Q))) :
    Jd Y (d + 1) y_MO_measures 125 [(0, sR t (.inl 6)), (1, sI v1), (2, sI v2), (3, sI v3)] [sI s0, sI s1, sI s2, sR b3 (.inr 21)] σ Q :=
  blk_ok (d := (d + 1)) (y := y_MO_measures) (ft := ft_MO) (ct := ct_MO) (tab := tab_MO_measures) ⟨tk_MO_measures, ft_MO_ok, ct_MO_ok Y⟩ [(7, [0, 1]), (17, [0, 1, 2, 3]), (65, [0, 1]), (79, [0, 1, 2, 3]), (125, [0, 1, 2, 3])] 97 125 _ _ σ h
set_option maxRecDepth 20000 in
theorem s_MO_many_0 (Y : List kd) (d : Nat) (t : Nat) (v1 : Int32) (σ : sS) (Q : Option sv → sS → Prop)
    (h : CJ Y d y_MO_isHolding [sR t (.inl 6), sI v1] σ (rI fun r1 σ1 => ((r1 = 0 → Q (some (sI 0)) σ1) ∧ (¬ r1 = 0 → (vp_in v1 21 ∧ Q (some (sI (σ1 (t + 3) (Int32.toNatClampNeg v1)))) σ1))))) :
    Jd Y (d + 1) y_MO_many 0 [(0, sR t (.inl 6)), (1, sI v1)] [] σ Q :=
  blk_ok (d := (d + 1)) (y := y_MO_many) (ft := ft_MO) (ct := ct_MO) (tab := tab_MO_many) ⟨tk_MO_many, ft_MO_ok, ct_MO_ok Y⟩ [] 13 0 _ _ σ h
set_option maxRecDepth 20000 in
theorem s_MO_isHolding_0 (Y : List kd) (d : Nat) (t : Nat) (v1 : Int32) (σ : sS) (Q : Option sv → sS → Prop)
    (h : (vp_in v1 21 ∧ (((σ (t + 2) (Int32.toNatClampNeg v1)) = 2 → (((1 : Int32) = 0 ∨ (1 : Int32) = 1) ∧ Q (some (sI 1)) σ)) ∧ (¬ (σ (t + 2) (Int32.toNatClampNeg v1)) = 2 → (vp_in v1 21 ∧ ((¬ (σ (t + 2) (Int32.toNatClampNeg v1)) = 3 → (((0 : Int32) = 0 ∨ (0 : Int32) = 1) ∧ Q (some (sI 0)) σ)) ∧ ((σ (t + 2) (Int32.toNatClampNeg v1)) = 3 → (((1 : Int32) = 0 ∨ (1 : Int32) = 1) ∧ Q (some (sI 1)) σ)))))))) :
    Jd Y d y_MO_isHolding 0 [(0, sR t (.inl 6)), (1, sI v1)] [] σ Q :=
  blk_ok (d := d) (y := y_MO_isHolding) (ft := ft_MO) (ct := ct_MO) (tab := tab_MO_isHolding) ⟨tk_MO_isHolding, ft_MO_ok, ct_MO_ok Y⟩ [] 18 0 _ _ σ h
set_option maxRecDepth 20000 in
theorem s_MO_letter_0 (Y : List kd) (d : Nat) (t : Nat) (v1 : Int32) (σ : sS) (Q : Option sv → sS → Prop)
    (h : ((¬ (iBd v1 0 255) = 0 → Jd Y (d + 1) y_MO_letter 25 [(0, sR t (.inl 6)), (1, sI v1), (2, sI (iBd v1 0 255))] [] σ Q) ∧ ((iBd v1 0 255) = 0 → ((¬ (σ t 42) = 96 → Jd Y (d + 1) y_MO_letter 25 [(0, sR t (.inl 6)), (1, sI v1), (2, sI (iBd v1 0 255))] [] σ Q) ∧ ((σ t 42) = 96 → Jd Y (d + 1) y_MO_letter 25 [(0, sR t (.inl 6)), (1, sI v1), (2, sI (-6))] [] σ Q))))) :
    Jd Y (d + 1) y_MO_letter 0 [(0, sR t (.inl 6)), (1, sI v1)] [] σ Q :=
  blk_ok (d := (d + 1)) (y := y_MO_letter) (ft := ft_MO) (ct := ct_MO) (tab := tab_MO_letter) ⟨tk_MO_letter, ft_MO_ok, ct_MO_ok Y⟩ [(25, [0, 1, 2])] 36 0 _ _ σ h
set_option maxRecDepth 20000 in
theorem s_MO_letter_25 (Y : List kd) (d : Nat) (t : Nat) (v1 : Int32) (v2 : Int32) (σ : sS) (Q : Option sv → sS → Prop)
    (h : ((v2 = 0 → (vp_in (σ t 42) 96 ∧ Q (some (sI ((up (up σ (t + 29) (Int32.toNatClampNeg (σ t 42)) v1) t 42 (((up σ (t + 29) (Int32.toNatClampNeg (σ t 42)) v1) t 42) + 1)) t 42))) (up (up σ (t + 29) (Int32.toNatClampNeg (σ t 42)) v1) t 42 (((up σ (t + 29) (Int32.toNatClampNeg (σ t 42)) v1) t 42) + 1)))) ∧ (¬ v2 = 0 → CJ Y d y_MO_no [sR t (.inl 6), sI v2] σ (rI fun r1 σ1 => Q (some (sI r1)) σ1)))) :
    Jd Y (d + 1) y_MO_letter 25 [(0, sR t (.inl 6)), (1, sI v1), (2, sI v2)] [] σ Q :=
  blk_ok (d := (d + 1)) (y := y_MO_letter) (ft := ft_MO) (ct := ct_MO) (tab := tab_MO_letter) ⟨tk_MO_letter, ft_MO_ok, ct_MO_ok Y⟩ [(25, [0, 1, 2])] 36 25 _ _ σ h
set_option maxRecDepth 20000 in
theorem s_MO_no_0 (Y : List kd) (d : Nat) (t : Nat) (v1 : Int32) (σ : sS) (Q : Option sv → sS → Prop)
    (h : (vp_in (-v1) 7 ∧ (vp_in (-v1) 7 ∧ Q (some (sI v1)) (up σ (t + 1) (Int32.toNatClampNeg (-v1)) ((σ (t + 1) (Int32.toNatClampNeg (-v1))) + 1))))) :
    Jd Y d y_MO_no 0 [(0, sR t (.inl 6)), (1, sI v1)] [] σ Q :=
  blk_ok (d := d) (y := y_MO_no) (ft := ft_MO) (ct := ct_MO) (tab := tab_MO_no) ⟨tk_MO_no, ft_MO_ok, ct_MO_ok Y⟩ [] 13 0 _ _ σ h
set_option maxRecDepth 20000 in
theorem s_MO_value_0 (Y : List kd) (d : Nat) (t : Nat) (σ : sS) (Q : Option sv → sS → Prop)
    (h : CJ Y d y_MO_passesValue [sR t (.inl 6), sI 1, sI 1] σ (rN fun σ1 => CJ Y d y_MO_readsValue [sR t (.inl 6)] σ1 (rI fun r2 σ2 => ((r2 = 0 → Jd Y (d + 1) y_MO_value 36 [(0, sR t (.inl 6)), (1, sI r2)] [] (up σ2 t 42 0) Q) ∧ (¬ r2 = 0 → ((¬ ((up σ2 t 42 0) t 44) < 0 → Jd Y (d + 1) y_MO_value 36 [(0, sR t (.inl 6)), (1, sI r2)] [] (up σ2 t 42 0) Q) ∧ (((up σ2 t 42 0) t 44) < 0 → CJ Y d y_MO_measures [sR t (.inl 6)] (up σ2 t 42 0) (rN fun σ3 => Q (some (sI (σ3 t 6))) σ3)))))))) :
    Jd Y (d + 1) y_MO_value 0 [(0, sR t (.inl 6))] [] σ Q :=
  blk_ok (d := (d + 1)) (y := y_MO_value) (ft := ft_MO) (ct := ct_MO) (tab := tab_MO_value) ⟨tk_MO_value, ft_MO_ok, ct_MO_ok Y⟩ [(36, [0, 1])] 38 0 _ _ σ h
set_option maxRecDepth 20000 in
theorem s_MO_value_36 (Y : List kd) (d : Nat) (t : Nat) (v1 : Int32) (σ : sS) (Q : Option sv → sS → Prop)
    (h : CJ Y d y_MO_passesValue [sR t (.inl 6), sI 1, sI 0] σ (rN fun σ1 => ((v1 = 0 → Q (some (sI ((-1000) - (σ1 t 43)))) σ1) ∧ (¬ v1 = 0 → Q (some (sI ((-2000) - (σ1 t 44)))) σ1)))) :
    Jd Y (d + 1) y_MO_value 36 [(0, sR t (.inl 6)), (1, sI v1)] [] σ Q :=
  blk_ok (d := (d + 1)) (y := y_MO_value) (ft := ft_MO) (ct := ct_MO) (tab := tab_MO_value) ⟨tk_MO_value, ft_MO_ok, ct_MO_ok Y⟩ [(36, [0, 1])] 38 36 _ _ σ h
set_option maxRecDepth 20000 in
theorem s_MO_passesValue_0 (Y : List kd) (d : Nat) (t : Nat) (v1 : Int32) (v2 : Int32) (σ : sS) (Q : Option sv → sS → Prop)
    (h : ((v2 = 0 ∨ v2 = 1) ∧ CJ Y d y_MO_passes [sR t (.inl 6), sR (t + 2) (.inr 21)] (up (up σ t 50 (460 * v1)) t 49 v2) (rN fun σ1 => CJ Y d y_MO_passes [sR t (.inl 6), sR (t + 3) (.inr 21)] σ1 (rN fun σ2 => CJ Y d y_MO_passes [sR t (.inl 6), sR (t + 4) (.inr 21)] σ2 (rN fun σ3 => CJ Y d y_MO_passOne [sR t (.inl 6), sI (σ3 t 6)] σ3 (rI fun r4 σ4 => ((¬ v2 = 0 → Q none (up σ4 t 6 r4)) ∧ (v2 = 0 → CJ Y d y_MO_measures [sR t (.inl 6)] (up σ4 t 6 r4) (rN fun σ5 => Q none σ5))))))))) :
    Jd Y (d + 1) y_MO_passesValue 0 [(0, sR t (.inl 6)), (1, sI v1), (2, sI v2)] [] σ Q :=
  blk_ok (d := (d + 1)) (y := y_MO_passesValue) (ft := ft_MO) (ct := ct_MO) (tab := tab_MO_passesValue) ⟨tk_MO_passesValue, ft_MO_ok, ct_MO_ok Y⟩ [] 33 0 _ _ σ h
set_option maxRecDepth 20000 in
theorem s_MO_passes_0 (Y : List kd) (d : Nat) (t : Nat) (a1 n1 : Nat) (σ : sS) (Q : Option sv → sS → Prop)
    (h : Jd Y d y_MO_passes 2 [(0, sR t (.inl 6)), (1, sR a1 (.inr n1)), (2, sI 0)] [] σ Q) :
    Jd Y d y_MO_passes 0 [(0, sR t (.inl 6)), (1, sR a1 (.inr n1))] [] σ Q :=
  blk_ok (d := d) (y := y_MO_passes) (ft := ft_MO) (ct := ct_MO) (tab := tab_MO_passes) ⟨tk_MO_passes, ft_MO_ok, ct_MO_ok Y⟩ [(2, [0, 1, 2]), (42, [0, 1, 2])] 37 0 _ _ σ h
set_option maxRecDepth 20000 in
theorem s_MO_passes_2 (Y : List kd) (d : Nat) (t : Nat) (a1 : Nat) (n1 : Nat) (v2 : Int32) (σ : sS) (Q : Option sv → sS → Prop)
    (h : ((¬ v2 < (nI n1) → Q none σ) ∧ (v2 < (nI n1) → (((σ t 49) = 0 → (vp_in (σ t 50) 1400 ∧ (vp_in v2 n1 ∧ Jd Y d y_MO_passes 42 [(0, sR t (.inl 6)), (1, sR a1 (.inr n1)), (2, sI v2)] [] (up σ a1 (Int32.toNatClampNeg v2) (σ (t + 35) (Int32.toNatClampNeg (σ t 50)))) Q))) ∧ (¬ (σ t 49) = 0 → (vp_in v2 n1 ∧ (vp_in (σ t 50) 1400 ∧ Jd Y d y_MO_passes 42 [(0, sR t (.inl 6)), (1, sR a1 (.inr n1)), (2, sI v2)] [] (up σ (t + 35) (Int32.toNatClampNeg (σ t 50)) (σ a1 (Int32.toNatClampNeg v2))) Q))))))) :
    Jd Y d y_MO_passes 2 [(0, sR t (.inl 6)), (1, sR a1 (.inr n1)), (2, sI v2)] [] σ Q :=
  blk_ok (d := d) (y := y_MO_passes) (ft := ft_MO) (ct := ct_MO) (tab := tab_MO_passes) ⟨tk_MO_passes, ft_MO_ok, ct_MO_ok Y⟩ [(2, [0, 1, 2]), (42, [0, 1, 2])] 37 2 _ _ σ h
set_option maxRecDepth 20000 in
theorem s_MO_passes_42 (Y : List kd) (d : Nat) (t : Nat) (a1 : Nat) (n1 : Nat) (v2 : Int32) (σ : sS) (Q : Option sv → sS → Prop)
    (h : Jd Y d y_MO_passes 2 [(0, sR t (.inl 6)), (1, sR a1 (.inr n1)), (2, sI (v2 + 1))] [] (up σ t 50 ((σ t 50) + 1)) Q) :
    Jd Y d y_MO_passes 42 [(0, sR t (.inl 6)), (1, sR a1 (.inr n1)), (2, sI v2)] [] σ Q :=
  blk_ok (d := d) (y := y_MO_passes) (ft := ft_MO) (ct := ct_MO) (tab := tab_MO_passes) ⟨tk_MO_passes, ft_MO_ok, ct_MO_ok Y⟩ [(2, [0, 1, 2]), (42, [0, 1, 2])] 37 42 _ _ σ h
set_option maxRecDepth 20000 in
theorem s_MO_passOne_0 (Y : List kd) (d : Nat) (t : Nat) (v1 : Int32) (σ : sS) (Q : Option sv → sS → Prop)
    (h : (((σ t 49) = 0 → (vp_in (σ t 50) 1400 ∧ Jd Y d y_MO_passOne 20 [(0, sR t (.inl 6)), (1, sI v1)] [sI (σ (t + 35) (Int32.toNatClampNeg (σ t 50)))] σ Q)) ∧ (¬ (σ t 49) = 0 → Jd Y d y_MO_passOne 20 [(0, sR t (.inl 6)), (1, sI v1)] [sI v1] σ Q))) :
    Jd Y d y_MO_passOne 0 [(0, sR t (.inl 6)), (1, sI v1)] [] σ Q :=
  blk_ok (d := d) (y := y_MO_passOne) (ft := ft_MO) (ct := ct_MO) (tab := tab_MO_passOne) ⟨tk_MO_passOne, ft_MO_ok, ct_MO_ok Y⟩ [(20, [0, 1]), (38, [0, 2])] 30 0 _ _ σ h
set_option maxRecDepth 20000 in
theorem s_MO_passOne_20 (Y : List kd) (d : Nat) (t : Nat) (v1 : Int32) (s0 : Int32) (σ : sS) (Q : Option sv → sS → Prop)
    (h : (((σ t 49) = 0 → Jd Y d y_MO_passOne 38 [(0, sR t (.inl 6)), (2, sI s0)] [] σ Q) ∧ (¬ (σ t 49) = 0 → (vp_in (σ t 50) 1400 ∧ Jd Y d y_MO_passOne 38 [(0, sR t (.inl 6)), (2, sI s0)] [] (up σ (t + 35) (Int32.toNatClampNeg (σ t 50)) v1) Q)))) :
    Jd Y d y_MO_passOne 20 [(0, sR t (.inl 6)), (1, sI v1)] [sI s0] σ Q :=
  blk_ok (d := d) (y := y_MO_passOne) (ft := ft_MO) (ct := ct_MO) (tab := tab_MO_passOne) ⟨tk_MO_passOne, ft_MO_ok, ct_MO_ok Y⟩ [(20, [0, 1]), (38, [0, 2])] 30 20 _ _ σ h
set_option maxRecDepth 20000 in
theorem s_MO_passOne_38 (Y : List kd) (d : Nat) (t : Nat) (v2 : Int32) (σ : sS) (Q : Option sv → sS → Prop)
    (h : Q (some (sI v2)) (up σ t 50 ((σ t 50) + 1))) :
    Jd Y d y_MO_passOne 38 [(0, sR t (.inl 6)), (2, sI v2)] [] σ Q :=
  blk_ok (d := d) (y := y_MO_passOne) (ft := ft_MO) (ct := ct_MO) (tab := tab_MO_passOne) ⟨tk_MO_passOne, ft_MO_ok, ct_MO_ok Y⟩ [(20, [0, 1]), (38, [0, 2])] 30 38 _ _ σ h
set_option maxRecDepth 20000 in
theorem s_MO_readsValue_0 (Y : List kd) (d : Nat) (t : Nat) (σ : sS) (Q : Option sv → sS → Prop)
    (h : CJ Y d y_MO_readsPart [sR t (.inl 6)] (up (up (up (up (up σ t 43 0) t 44 (-1)) t 45 0) t 6 0) t 46 0) (rI fun r1 σ1 => Jd Y (d + 1) y_MO_readsValue 30 [(0, sR t (.inl 6)), (1, sI r1)] [] σ1 Q)) :
    Jd Y (d + 1) y_MO_readsValue 0 [(0, sR t (.inl 6))] [] σ Q :=
  blk_ok (d := (d + 1)) (y := y_MO_readsValue) (ft := ft_MO) (ct := ct_MO) (tab := tab_MO_readsValue) ⟨tk_MO_readsValue, ft_MO_ok, ct_MO_ok Y⟩ [(30, [0, 1]), (49, [0, 1])] 40 0 _ _ σ h
set_option maxRecDepth 20000 in
theorem s_MO_readsValue_30 (Y : List kd) (d : Nat) (t : Nat) (v1 : Int32) (σ : sS) (Q : Option sv → sS → Prop)
    (h : ((v1 = 0 → Jd Y (d + 1) y_MO_readsValue 49 [(0, sR t (.inl 6)), (1, sI v1)] [] σ Q) ∧ (¬ v1 = 0 → ((¬ (0 : Int32) < (σ t 45) → Jd Y (d + 1) y_MO_readsValue 49 [(0, sR t (.inl 6)), (1, sI v1)] [] σ Q) ∧ ((0 : Int32) < (σ t 45) → CJ Y d y_MO_readsInside [sR t (.inl 6)] σ (rI fun r1 σ1 => Jd Y (d + 1) y_MO_readsValue 30 [(0, sR t (.inl 6)), (1, sI r1)] [] σ1 Q)))))) :
    Jd Y (d + 1) y_MO_readsValue 30 [(0, sR t (.inl 6)), (1, sI v1)] [] σ Q :=
  blk_ok (d := (d + 1)) (y := y_MO_readsValue) (ft := ft_MO) (ct := ct_MO) (tab := tab_MO_readsValue) ⟨tk_MO_readsValue, ft_MO_ok, ct_MO_ok Y⟩ [(30, [0, 1]), (49, [0, 1])] 40 30 _ _ σ h
set_option maxRecDepth 20000 in
theorem s_MO_readsValue_49 (Y : List kd) (d : Nat) (t : Nat) (v1 : Int32) (σ : sS) (Q : Option sv → sS → Prop)
    (h : ((v1 = 0 → (((0 : Int32) = 0 ∨ (0 : Int32) = 1) ∧ Q (some (sI 0)) σ)) ∧ (¬ v1 = 0 → ((¬ (σ t 43) = (σ t 42) → (((0 : Int32) = 0 ∨ (0 : Int32) = 1) ∧ Q (some (sI 0)) σ)) ∧ ((σ t 43) = (σ t 42) → (((1 : Int32) = 0 ∨ (1 : Int32) = 1) ∧ Q (some (sI 1)) σ)))))) :
    Jd Y (d + 1) y_MO_readsValue 49 [(0, sR t (.inl 6)), (1, sI v1)] [] σ Q :=
  blk_ok (d := (d + 1)) (y := y_MO_readsValue) (ft := ft_MO) (ct := ct_MO) (tab := tab_MO_readsValue) ⟨tk_MO_readsValue, ft_MO_ok, ct_MO_ok Y⟩ [(30, [0, 1]), (49, [0, 1])] 40 49 _ _ σ h
set_option maxRecDepth 20000 in
theorem s_MO_readsPart_0 (Y : List kd) (d : Nat) (t : Nat) (σ : sS) (Q : Option sv → sS → Prop)
    (h : CJ Y d y_MO_sign [sR t (.inl 6)] σ (rI fun r1 σ1 => (((iIn r1 48 57) = 0 → ((¬ r1 = 63 → ((r1 = 40 → Jd Y (d + 1) y_MO_readsPart 49 [(0, sR t (.inl 6)), (1, sI r1)] [] σ1 Q) ∧ (¬ r1 = 40 → ((¬ r1 = 91 → (((0 : Int32) = 0 ∨ (0 : Int32) = 1) ∧ Q (some (sI 0)) σ1)) ∧ (r1 = 91 → Jd Y (d + 1) y_MO_readsPart 49 [(0, sR t (.inl 6)), (1, sI r1)] [] σ1 Q))))) ∧ (r1 = 63 → CJ Y d y_MO_beginsPart [sR t (.inl 6), sI 1, sI 0] σ1 (rI fun r2 σ2 => Jd Y (d + 1) y_MO_readsPart 78 [(0, sR t (.inl 6))] [] σ2 Q)))) ∧ (¬ (iIn r1 48 57) = 0 → CJ Y d y_MO_readsNumber [sR t (.inl 6)] σ1 (rI fun r3 σ3 => ((r3 = 0 ∨ r3 = 1) ∧ Q (some (sI r3)) σ3)))))) :
    Jd Y (d + 1) y_MO_readsPart 0 [(0, sR t (.inl 6))] [] σ Q :=
  blk_ok (d := (d + 1)) (y := y_MO_readsPart) (ft := ft_MO) (ct := ct_MO) (tab := tab_MO_readsPart) ⟨tk_MO_readsPart, ft_MO_ok, ct_MO_ok Y⟩ [(49, [0, 1]), (60, [0]), (78, [0])] 54 0 _ _ σ h
set_option maxRecDepth 20000 in
theorem s_MO_readsPart_49 (Y : List kd) (d : Nat) (t : Nat) (v1 : Int32) (σ : sS) (Q : Option sv → sS → Prop)
    (h : ((¬ v1 = 40 → Jd Y (d + 1) y_MO_readsPart 60 [(0, sR t (.inl 6))] [sI 3] σ Q) ∧ (v1 = 40 → Jd Y (d + 1) y_MO_readsPart 60 [(0, sR t (.inl 6))] [sI 2] σ Q))) :
    Jd Y (d + 1) y_MO_readsPart 49 [(0, sR t (.inl 6)), (1, sI v1)] [] σ Q :=
  blk_ok (d := (d + 1)) (y := y_MO_readsPart) (ft := ft_MO) (ct := ct_MO) (tab := tab_MO_readsPart) ⟨tk_MO_readsPart, ft_MO_ok, ct_MO_ok Y⟩ [(49, [0, 1]), (60, [0]), (78, [0])] 54 49 _ _ σ h
set_option maxRecDepth 20000 in
theorem s_MO_readsPart_60 (Y : List kd) (d : Nat) (t : Nat) (s0 : Int32) (σ : sS) (Q : Option sv → sS → Prop)
    (h : CJ Y d y_MO_beginsPart [sR t (.inl 6), sI s0, sI 0] σ (rI fun r1 σ1 => CJ Y d y_MO_opens [sR t (.inl 6), sI r1, sI s0, sI 0] σ1 (rN fun σ2 => Jd Y (d + 1) y_MO_readsPart 78 [(0, sR t (.inl 6))] [] σ2 Q))) :
    Jd Y (d + 1) y_MO_readsPart 60 [(0, sR t (.inl 6))] [sI s0] σ Q :=
  blk_ok (d := (d + 1)) (y := y_MO_readsPart) (ft := ft_MO) (ct := ct_MO) (tab := tab_MO_readsPart) ⟨tk_MO_readsPart, ft_MO_ok, ct_MO_ok Y⟩ [(49, [0, 1]), (60, [0]), (78, [0])] 54 60 _ _ σ h
set_option maxRecDepth 20000 in
theorem s_MO_readsPart_78 (Y : List kd) (d : Nat) (t : Nat) (σ : sS) (Q : Option sv → sS → Prop)
    (h : (((1 : Int32) = 0 ∨ (1 : Int32) = 1) ∧ Q (some (sI 1)) (up σ t 43 ((σ t 43) + 1)))) :
    Jd Y (d + 1) y_MO_readsPart 78 [(0, sR t (.inl 6))] [] σ Q :=
  blk_ok (d := (d + 1)) (y := y_MO_readsPart) (ft := ft_MO) (ct := ct_MO) (tab := tab_MO_readsPart) ⟨tk_MO_readsPart, ft_MO_ok, ct_MO_ok Y⟩ [(49, [0, 1]), (60, [0]), (78, [0])] 54 78 _ _ σ h
set_option maxRecDepth 20000 in
theorem s_MO_sign_0 (Y : List kd) (d : Nat) (t : Nat) (σ : sS) (Q : Option sv → sS → Prop)
    (h : ((¬ (σ t 43) < (σ t 42) → Q (some (sI (-1))) σ) ∧ ((σ t 43) < (σ t 42) → (vp_in (σ t 43) 96 ∧ Q (some (sI (σ (t + 29) (Int32.toNatClampNeg (σ t 43))))) σ)))) :
    Jd Y d y_MO_sign 0 [(0, sR t (.inl 6))] [] σ Q :=
  blk_ok (d := d) (y := y_MO_sign) (ft := ft_MO) (ct := ct_MO) (tab := tab_MO_sign) ⟨tk_MO_sign, ft_MO_ok, ct_MO_ok Y⟩ [] 15 0 _ _ σ h
set_option maxRecDepth 20000 in
theorem s_MO_readsNumber_0 (Y : List kd) (d : Nat) (t : Nat) (σ : sS) (Q : Option sv → sS → Prop)
    (h : CJ Y d y_MO_beginsPart [sR t (.inl 6), sI 0, sI 0] σ (rI fun r1 σ1 => CJ Y d y_MO_digit [sR t (.inl 6)] σ1 (rI fun r2 σ2 => (vp_in r1 21 ∧ CJ Y d y_MO_digit [sR t (.inl 6)] (up σ2 (t + 3) (Int32.toNatClampNeg r1) r2) (rI fun r3 σ3 => ((r3 < 0 → (((1 : Int32) = 0 ∨ (1 : Int32) = 1) ∧ Q (some (sI 1)) σ3)) ∧ (¬ r3 < 0 → (vp_in r1 21 ∧ (vp_in r1 21 ∧ (((1 : Int32) = 0 ∨ (1 : Int32) = 1) ∧ Q (some (sI 1)) (up σ3 (t + 3) (Int32.toNatClampNeg r1) ((10 * (σ3 (t + 3) (Int32.toNatClampNeg r1))) + r3)))))))))))) :
    Jd Y (d + 1) y_MO_readsNumber 0 [(0, sR t (.inl 6))] [] σ Q :=
  blk_ok (d := (d + 1)) (y := y_MO_readsNumber) (ft := ft_MO) (ct := ct_MO) (tab := tab_MO_readsNumber) ⟨tk_MO_readsNumber, ft_MO_ok, ct_MO_ok Y⟩ [] 32 0 _ _ σ h
set_option maxRecDepth 20000 in
theorem s_MO_beginsPart_0 (Y : List kd) (d : Nat) (t : Nat) (v1 : Int32) (v2 : Int32) (σ : sS) (Q : Option sv → sS → Prop)
    (h : ((¬ (σ t 6) < 20 → Jd Y (d + 1) y_MO_beginsPart 18 [(0, sR t (.inl 6)), (1, sI v1), (2, sI v2)] [sI 20] σ Q) ∧ ((σ t 6) < 20 → Jd Y (d + 1) y_MO_beginsPart 18 [(0, sR t (.inl 6)), (1, sI v1), (2, sI v2)] [sI (σ t 6)] σ Q))) :
    Jd Y (d + 1) y_MO_beginsPart 0 [(0, sR t (.inl 6)), (1, sI v1), (2, sI v2)] [] σ Q :=
  blk_ok (d := (d + 1)) (y := y_MO_beginsPart) (ft := ft_MO) (ct := ct_MO) (tab := tab_MO_beginsPart) ⟨tk_MO_beginsPart, ft_MO_ok, ct_MO_ok Y⟩ [(18, [0, 1, 2]), (60, [0, 1, 2, 3]), (61, [0, 1, 2, 3]), (85, [0, 1, 2, 3]), (93, [0, 1, 2, 3]), (115, [0, 1, 2, 3])] 88 0 _ _ σ h
set_option maxRecDepth 20000 in
theorem s_MO_beginsPart_18 (Y : List kd) (d : Nat) (t : Nat) (v1 : Int32) (v2 : Int32) (s0 : Int32) (σ : sS) (Q : Option sv → sS → Prop)
    (h : ((¬ (0 : Int32) < (σ t 45) → Jd Y (d + 1) y_MO_beginsPart 60 [(0, sR t (.inl 6)), (1, sI v1), (2, sI v2), (3, sI s0)] [] σ Q) ∧ ((0 : Int32) < (σ t 45) → (vp_in ((σ t 45) - 1) 100 ∧ ((¬ (σ (t + 31) (Int32.toNatClampNeg ((σ t 45) - 1))) = 3 → Jd Y (d + 1) y_MO_beginsPart 60 [(0, sR t (.inl 6)), (1, sI v1), (2, sI v2), (3, sI s0)] [] σ Q) ∧ ((σ (t + 31) (Int32.toNatClampNeg ((σ t 45) - 1))) = 3 → (vp_in ((σ t 45) - 1) 100 ∧ (((σ (t + 33) (Int32.toNatClampNeg ((σ t 45) - 1))) < 4 → Jd Y (d + 1) y_MO_beginsPart 60 [(0, sR t (.inl 6)), (1, sI v1), (2, sI v2), (3, sI s0)] [] σ Q) ∧ (¬ (σ (t + 33) (Int32.toNatClampNeg ((σ t 45) - 1))) < 4 → Jd Y (d + 1) y_MO_beginsPart 61 [(0, sR t (.inl 6)), (1, sI v1), (2, sI v2), (3, sI s0)] [sI 1] σ Q))))))))) :
    Jd Y (d + 1) y_MO_beginsPart 18 [(0, sR t (.inl 6)), (1, sI v1), (2, sI v2)] [sI s0] σ Q :=
  blk_ok (d := (d + 1)) (y := y_MO_beginsPart) (ft := ft_MO) (ct := ct_MO) (tab := tab_MO_beginsPart) ⟨tk_MO_beginsPart, ft_MO_ok, ct_MO_ok Y⟩ [(18, [0, 1, 2]), (60, [0, 1, 2, 3]), (61, [0, 1, 2, 3]), (85, [0, 1, 2, 3]), (93, [0, 1, 2, 3]), (115, [0, 1, 2, 3])] 88 18 _ _ σ h
set_option maxRecDepth 20000 in
theorem s_MO_beginsPart_60 (Y : List kd) (d : Nat) (t : Nat) (v1 : Int32) (v2 : Int32) (v3 : Int32) (σ : sS) (Q : Option sv → sS → Prop)
    (h : Jd Y (d + 1) y_MO_beginsPart 61 [(0, sR t (.inl 6)), (1, sI v1), (2, sI v2), (3, sI v3)] [sI 0] σ Q) :
    Jd Y (d + 1) y_MO_beginsPart 60 [(0, sR t (.inl 6)), (1, sI v1), (2, sI v2), (3, sI v3)] [] σ Q :=
  blk_ok (d := (d + 1)) (y := y_MO_beginsPart) (ft := ft_MO) (ct := ct_MO) (tab := tab_MO_beginsPart) ⟨tk_MO_beginsPart, ft_MO_ok, ct_MO_ok Y⟩ [(18, [0, 1, 2]), (60, [0, 1, 2, 3]), (61, [0, 1, 2, 3]), (85, [0, 1, 2, 3]), (93, [0, 1, 2, 3]), (115, [0, 1, 2, 3])] 88 60 _ _ σ h
set_option maxRecDepth 20000 in
theorem s_MO_beginsPart_61 (Y : List kd) (d : Nat) (t : Nat) (v1 : Int32) (v2 : Int32) (v3 : Int32) (s0 : Int32) (σ : sS) (Q : Option sv → sS → Prop)
    (h : ((¬ (σ t 6) < 20 → Jd Y (d + 1) y_MO_beginsPart 85 [(0, sR t (.inl 6)), (1, sI v1), (2, sI v2), (3, sI v3)] [] σ Q) ∧ ((σ t 6) < 20 → (((4 : Int32) < (σ t 45) → Jd Y (d + 1) y_MO_beginsPart 85 [(0, sR t (.inl 6)), (1, sI v1), (2, sI v2), (3, sI v3)] [] σ Q) ∧ (¬ (4 : Int32) < (σ t 45) → ((s0 = 0 → Jd Y (d + 1) y_MO_beginsPart 93 [(0, sR t (.inl 6)), (1, sI v1), (2, sI v2), (3, sI v3)] [] σ Q) ∧ (¬ s0 = 0 → Jd Y (d + 1) y_MO_beginsPart 85 [(0, sR t (.inl 6)), (1, sI v1), (2, sI v2), (3, sI v3)] [] σ Q))))))) :
    Jd Y (d + 1) y_MO_beginsPart 61 [(0, sR t (.inl 6)), (1, sI v1), (2, sI v2), (3, sI v3)] [sI s0] σ Q :=
  blk_ok (d := (d + 1)) (y := y_MO_beginsPart) (ft := ft_MO) (ct := ct_MO) (tab := tab_MO_beginsPart) ⟨tk_MO_beginsPart, ft_MO_ok, ct_MO_ok Y⟩ [(18, [0, 1, 2]), (60, [0, 1, 2, 3]), (61, [0, 1, 2, 3]), (85, [0, 1, 2, 3]), (93, [0, 1, 2, 3]), (115, [0, 1, 2, 3])] 88 61 _ _ σ h
set_option maxRecDepth 20000 in
theorem s_MO_beginsPart_85 (Y : List kd) (d : Nat) (t : Nat) (v1 : Int32) (v2 : Int32) (v3 : Int32) (σ : sS) (Q : Option sv → sS → Prop)
    (h : CJ Y d y_MO_isBad [sR t (.inl 6), sI (σ t 43)] σ (rN fun σ1 => Jd Y (d + 1) y_MO_beginsPart 93 [(0, sR t (.inl 6)), (1, sI v1), (2, sI v2), (3, sI v3)] [] σ1 Q)) :
    Jd Y (d + 1) y_MO_beginsPart 85 [(0, sR t (.inl 6)), (1, sI v1), (2, sI v2), (3, sI v3)] [] σ Q :=
  blk_ok (d := (d + 1)) (y := y_MO_beginsPart) (ft := ft_MO) (ct := ct_MO) (tab := tab_MO_beginsPart) ⟨tk_MO_beginsPart, ft_MO_ok, ct_MO_ok Y⟩ [(18, [0, 1, 2]), (60, [0, 1, 2, 3]), (61, [0, 1, 2, 3]), (85, [0, 1, 2, 3]), (93, [0, 1, 2, 3]), (115, [0, 1, 2, 3])] 88 85 _ _ σ h
set_option maxRecDepth 20000 in
theorem s_MO_beginsPart_93 (Y : List kd) (d : Nat) (t : Nat) (v1 : Int32) (v2 : Int32) (v3 : Int32) (σ : sS) (Q : Option sv → sS → Prop)
    (h : ((¬ (0 : Int32) < (σ t 45) → Jd Y (d + 1) y_MO_beginsPart 115 [(0, sR t (.inl 6)), (1, sI v1), (2, sI v2), (3, sI v3)] [] σ Q) ∧ ((0 : Int32) < (σ t 45) → (vp_in ((σ t 45) - 1) 100 ∧ (vp_in ((σ t 45) - 1) 100 ∧ Jd Y (d + 1) y_MO_beginsPart 115 [(0, sR t (.inl 6)), (1, sI v1), (2, sI v2), (3, sI v3)] [] (up σ (t + 33) (Int32.toNatClampNeg ((σ t 45) - 1)) ((σ (t + 33) (Int32.toNatClampNeg ((σ t 45) - 1))) + 1)) Q))))) :
    Jd Y (d + 1) y_MO_beginsPart 93 [(0, sR t (.inl 6)), (1, sI v1), (2, sI v2), (3, sI v3)] [] σ Q :=
  blk_ok (d := (d + 1)) (y := y_MO_beginsPart) (ft := ft_MO) (ct := ct_MO) (tab := tab_MO_beginsPart) ⟨tk_MO_beginsPart, ft_MO_ok, ct_MO_ok Y⟩ [(18, [0, 1, 2]), (60, [0, 1, 2, 3]), (61, [0, 1, 2, 3]), (85, [0, 1, 2, 3]), (93, [0, 1, 2, 3]), (115, [0, 1, 2, 3])] 88 93 _ _ σ h
set_option maxRecDepth 20000 in
theorem s_MO_beginsPart_115 (Y : List kd) (d : Nat) (t : Nat) (v1 : Int32) (v2 : Int32) (v3 : Int32) (σ : sS) (Q : Option sv → sS → Prop)
    (h : (vp_in v3 21 ∧ (vp_in v3 21 ∧ (vp_in v3 21 ∧ Q (some (sI v3)) (up (up (up (up σ (t + 2) (Int32.toNatClampNeg v3) v1) (t + 3) (Int32.toNatClampNeg v3) v2) (t + 4) (Int32.toNatClampNeg v3) ((up (up σ (t + 2) (Int32.toNatClampNeg v3) v1) (t + 3) (Int32.toNatClampNeg v3) v2) t 46)) t 6 (((up (up (up σ (t + 2) (Int32.toNatClampNeg v3) v1) (t + 3) (Int32.toNatClampNeg v3) v2) (t + 4) (Int32.toNatClampNeg v3) ((up (up σ (t + 2) (Int32.toNatClampNeg v3) v1) (t + 3) (Int32.toNatClampNeg v3) v2) t 46)) t 6) + 1)))))) :
    Jd Y (d + 1) y_MO_beginsPart 115 [(0, sR t (.inl 6)), (1, sI v1), (2, sI v2), (3, sI v3)] [] σ Q :=
  blk_ok (d := (d + 1)) (y := y_MO_beginsPart) (ft := ft_MO) (ct := ct_MO) (tab := tab_MO_beginsPart) ⟨tk_MO_beginsPart, ft_MO_ok, ct_MO_ok Y⟩ [(18, [0, 1, 2]), (60, [0, 1, 2, 3]), (61, [0, 1, 2, 3]), (85, [0, 1, 2, 3]), (93, [0, 1, 2, 3]), (115, [0, 1, 2, 3])] 88 115 _ _ σ h
set_option maxRecDepth 20000 in
theorem s_MO_isBad_0 (Y : List kd) (d : Nat) (t : Nat) (v1 : Int32) (σ : sS) (Q : Option sv → sS → Prop)
    (h : ((¬ (σ t 44) < 0 → Q none (up σ t 44 (σ t 44))) ∧ ((σ t 44) < 0 → Q none (up σ t 44 v1)))) :
    Jd Y d y_MO_isBad 0 [(0, sR t (.inl 6)), (1, sI v1)] [] σ Q :=
  blk_ok (d := d) (y := y_MO_isBad) (ft := ft_MO) (ct := ct_MO) (tab := tab_MO_isBad) ⟨tk_MO_isBad, ft_MO_ok, ct_MO_ok Y⟩ [] 12 0 _ _ σ h
set_option maxRecDepth 20000 in
theorem s_MO_digit_0 (Y : List kd) (d : Nat) (t : Nat) (σ : sS) (Q : Option sv → sS → Prop)
    (h : CJ Y d y_MO_sign [sR t (.inl 6)] σ (rI fun r1 σ1 => ((¬ (iIn r1 48 57) = 0 → (vp_in (((up σ1 t 43 ((σ1 t 43) + 1)) t 43) - 1) 96 ∧ Q (some (sI (((up σ1 t 43 ((σ1 t 43) + 1)) (t + 29) (Int32.toNatClampNeg (((up σ1 t 43 ((σ1 t 43) + 1)) t 43) - 1))) - 48))) (up σ1 t 43 ((σ1 t 43) + 1)))) ∧ ((iIn r1 48 57) = 0 → Q (some (sI (-9))) σ1)))) :
    Jd Y (d + 1) y_MO_digit 0 [(0, sR t (.inl 6))] [] σ Q :=
  blk_ok (d := (d + 1)) (y := y_MO_digit) (ft := ft_MO) (ct := ct_MO) (tab := tab_MO_digit) ⟨tk_MO_digit, ft_MO_ok, ct_MO_ok Y⟩ [] 26 0 _ _ σ h
set_option maxRecDepth 20000 in
theorem s_MO_opens_0 (Y : List kd) (d : Nat) (t : Nat) (v1 : Int32) (v2 : Int32) (v3 : Int32) (σ : sS) (Q : Option sv → sS → Prop)
    (h : (vp_in (σ t 45) 100 ∧ (vp_in ((up σ (t + 30) (Int32.toNatClampNeg (σ t 45)) v1) t 45) 100 ∧ (vp_in ((up (up σ (t + 30) (Int32.toNatClampNeg (σ t 45)) v1) (t + 31) (Int32.toNatClampNeg ((up σ (t + 30) (Int32.toNatClampNeg (σ t 45)) v1) t 45)) v2) t 45) 100 ∧ (vp_in ((up (up (up σ (t + 30) (Int32.toNatClampNeg (σ t 45)) v1) (t + 31) (Int32.toNatClampNeg ((up σ (t + 30) (Int32.toNatClampNeg (σ t 45)) v1) t 45)) v2) (t + 32) (Int32.toNatClampNeg ((up (up σ (t + 30) (Int32.toNatClampNeg (σ t 45)) v1) (t + 31) (Int32.toNatClampNeg ((up σ (t + 30) (Int32.toNatClampNeg (σ t 45)) v1) t 45)) v2) t 45)) 0) t 45) 100 ∧ ((v3 = 0 → Jd Y d y_MO_opens 57 [(0, sR t (.inl 6))] [sI 0, sI ((up (up (up (up σ (t + 30) (Int32.toNatClampNeg (σ t 45)) v1) (t + 31) (Int32.toNatClampNeg ((up σ (t + 30) (Int32.toNatClampNeg (σ t 45)) v1) t 45)) v2) (t + 32) (Int32.toNatClampNeg ((up (up σ (t + 30) (Int32.toNatClampNeg (σ t 45)) v1) (t + 31) (Int32.toNatClampNeg ((up σ (t + 30) (Int32.toNatClampNeg (σ t 45)) v1) t 45)) v2) t 45)) 0) (t + 33) (Int32.toNatClampNeg ((up (up (up σ (t + 30) (Int32.toNatClampNeg (σ t 45)) v1) (t + 31) (Int32.toNatClampNeg ((up σ (t + 30) (Int32.toNatClampNeg (σ t 45)) v1) t 45)) v2) (t + 32) (Int32.toNatClampNeg ((up (up σ (t + 30) (Int32.toNatClampNeg (σ t 45)) v1) (t + 31) (Int32.toNatClampNeg ((up σ (t + 30) (Int32.toNatClampNeg (σ t 45)) v1) t 45)) v2) t 45)) 0) t 45)) 0) t 45), sR (t + 34) (.inr 100)] (up (up (up (up σ (t + 30) (Int32.toNatClampNeg (σ t 45)) v1) (t + 31) (Int32.toNatClampNeg ((up σ (t + 30) (Int32.toNatClampNeg (σ t 45)) v1) t 45)) v2) (t + 32) (Int32.toNatClampNeg ((up (up σ (t + 30) (Int32.toNatClampNeg (σ t 45)) v1) (t + 31) (Int32.toNatClampNeg ((up σ (t + 30) (Int32.toNatClampNeg (σ t 45)) v1) t 45)) v2) t 45)) 0) (t + 33) (Int32.toNatClampNeg ((up (up (up σ (t + 30) (Int32.toNatClampNeg (σ t 45)) v1) (t + 31) (Int32.toNatClampNeg ((up σ (t + 30) (Int32.toNatClampNeg (σ t 45)) v1) t 45)) v2) (t + 32) (Int32.toNatClampNeg ((up (up σ (t + 30) (Int32.toNatClampNeg (σ t 45)) v1) (t + 31) (Int32.toNatClampNeg ((up σ (t + 30) (Int32.toNatClampNeg (σ t 45)) v1) t 45)) v2) t 45)) 0) t 45)) 0) Q) ∧ (¬ v3 = 0 → Jd Y d y_MO_opens 57 [(0, sR t (.inl 6))] [sI 1, sI ((up (up (up (up σ (t + 30) (Int32.toNatClampNeg (σ t 45)) v1) (t + 31) (Int32.toNatClampNeg ((up σ (t + 30) (Int32.toNatClampNeg (σ t 45)) v1) t 45)) v2) (t + 32) (Int32.toNatClampNeg ((up (up σ (t + 30) (Int32.toNatClampNeg (σ t 45)) v1) (t + 31) (Int32.toNatClampNeg ((up σ (t + 30) (Int32.toNatClampNeg (σ t 45)) v1) t 45)) v2) t 45)) 0) (t + 33) (Int32.toNatClampNeg ((up (up (up σ (t + 30) (Int32.toNatClampNeg (σ t 45)) v1) (t + 31) (Int32.toNatClampNeg ((up σ (t + 30) (Int32.toNatClampNeg (σ t 45)) v1) t 45)) v2) (t + 32) (Int32.toNatClampNeg ((up (up σ (t + 30) (Int32.toNatClampNeg (σ t 45)) v1) (t + 31) (Int32.toNatClampNeg ((up σ (t + 30) (Int32.toNatClampNeg (σ t 45)) v1) t 45)) v2) t 45)) 0) t 45)) 0) t 45), sR (t + 34) (.inr 100)] (up (up (up (up σ (t + 30) (Int32.toNatClampNeg (σ t 45)) v1) (t + 31) (Int32.toNatClampNeg ((up σ (t + 30) (Int32.toNatClampNeg (σ t 45)) v1) t 45)) v2) (t + 32) (Int32.toNatClampNeg ((up (up σ (t + 30) (Int32.toNatClampNeg (σ t 45)) v1) (t + 31) (Int32.toNatClampNeg ((up σ (t + 30) (Int32.toNatClampNeg (σ t 45)) v1) t 45)) v2) t 45)) 0) (t + 33) (Int32.toNatClampNeg ((up (up (up σ (t + 30) (Int32.toNatClampNeg (σ t 45)) v1) (t + 31) (Int32.toNatClampNeg ((up σ (t + 30) (Int32.toNatClampNeg (σ t 45)) v1) t 45)) v2) (t + 32) (Int32.toNatClampNeg ((up (up σ (t + 30) (Int32.toNatClampNeg (σ t 45)) v1) (t + 31) (Int32.toNatClampNeg ((up σ (t + 30) (Int32.toNatClampNeg (σ t 45)) v1) t 45)) v2) t 45)) 0) t 45)) 0) Q))))))) :
    Jd Y d y_MO_opens 0 [(0, sR t (.inl 6)), (1, sI v1), (2, sI v2), (3, sI v3)] [] σ Q :=
  blk_ok (d := d) (y := y_MO_opens) (ft := ft_MO) (ct := ct_MO) (tab := tab_MO_opens) ⟨tk_MO_opens, ft_MO_ok, ct_MO_ok Y⟩ [(57, [0])] 43 0 _ _ σ h
set_option maxRecDepth 20000 in
theorem s_MO_opens_57 (Y : List kd) (d : Nat) (t : Nat) (s0 : Int32) (s1 : Int32) (b2 : Nat) (σ : sS) (Q : Option sv → sS → Prop)
    (h : (vp_in s1 100 ∧ Q none (up (up σ b2 (Int32.toNatClampNeg s1) s0) t 45 (((up σ b2 (Int32.toNatClampNeg s1) s0) t 45) + 1)))) :
    Jd Y d y_MO_opens 57 [(0, sR t (.inl 6))] [sI s0, sI s1, sR b2 (.inr 100)] σ Q :=
  blk_ok (d := d) (y := y_MO_opens) (ft := ft_MO) (ct := ct_MO) (tab := tab_MO_opens) ⟨tk_MO_opens, ft_MO_ok, ct_MO_ok Y⟩ [(57, [0])] 43 57 _ _ σ h
set_option maxRecDepth 20000 in
theorem s_MO_readsInside_0 (Y : List kd) (d : Nat) (t : Nat) (σ : sS) (Q : Option sv → sS → Prop)
    (h : (vp_in (((up σ t 46 0) t 45) - 1) 100 ∧ ((¬ ((up σ t 46 0) (t + 31) (Int32.toNatClampNeg (((up σ t 46 0) t 45) - 1))) = 2 → CJ Y d y_MO_closes [sR t (.inl 6), sI 93] (up σ t 46 0) (rI fun r1 σ1 => ((r1 = 0 → (vp_in ((σ1 t 45) - 1) 100 ∧ (((σ1 (t + 33) (Int32.toNatClampNeg ((σ1 t 45) - 1))) = 0 → Jd Y (d + 1) y_MO_readsInside 76 [(0, sR t (.inl 6))] [] σ1 Q) ∧ (¬ (σ1 (t + 33) (Int32.toNatClampNeg ((σ1 t 45) - 1))) = 0 → CJ Y d y_MO_reads [sR t (.inl 6), sI 44] σ1 (rI fun r2 σ2 => ((r2 = 0 → (((0 : Int32) = 0 ∨ (0 : Int32) = 1) ∧ Q (some (sI 0)) σ2)) ∧ (¬ r2 = 0 → Jd Y (d + 1) y_MO_readsInside 76 [(0, sR t (.inl 6))] [] σ2 Q))))))) ∧ (¬ r1 = 0 → (((1 : Int32) = 0 ∨ (1 : Int32) = 1) ∧ Q (some (sI 1)) σ1))))) ∧ (((up σ t 46 0) (t + 31) (Int32.toNatClampNeg (((up σ t 46 0) t 45) - 1))) = 2 → CJ Y d y_MO_closes [sR t (.inl 6), sI 41] (up σ t 46 0) (rI fun r3 σ3 => ((¬ r3 = 0 → (((1 : Int32) = 0 ∨ (1 : Int32) = 1) ∧ Q (some (sI 1)) σ3)) ∧ (r3 = 0 → CJ Y d y_MO_readsField [sR t (.inl 6)] σ3 (rI fun r4 σ4 => ((r4 = 0 → (((0 : Int32) = 0 ∨ (0 : Int32) = 1) ∧ Q (some (sI 0)) σ4)) ∧ (¬ r4 = 0 → (((1 : Int32) = 0 ∨ (1 : Int32) = 1) ∧ Q (some (sI 1)) σ4))))))))))) :
    Jd Y (d + 1) y_MO_readsInside 0 [(0, sR t (.inl 6))] [] σ Q :=
  blk_ok (d := (d + 1)) (y := y_MO_readsInside) (ft := ft_MO) (ct := ct_MO) (tab := tab_MO_readsInside) ⟨tk_MO_readsInside, ft_MO_ok, ct_MO_ok Y⟩ [(76, [0])] 50 0 _ _ σ h
set_option maxRecDepth 20000 in
theorem s_MO_readsInside_76 (Y : List kd) (d : Nat) (t : Nat) (σ : sS) (Q : Option sv → sS → Prop)
    (h : CJ Y d y_MO_readsPart [sR t (.inl 6)] σ (rI fun r1 σ1 => ((r1 = 0 → (((0 : Int32) = 0 ∨ (0 : Int32) = 1) ∧ Q (some (sI 0)) σ1)) ∧ (¬ r1 = 0 → (((1 : Int32) = 0 ∨ (1 : Int32) = 1) ∧ Q (some (sI 1)) σ1))))) :
    Jd Y (d + 1) y_MO_readsInside 76 [(0, sR t (.inl 6))] [] σ Q :=
  blk_ok (d := (d + 1)) (y := y_MO_readsInside) (ft := ft_MO) (ct := ct_MO) (tab := tab_MO_readsInside) ⟨tk_MO_readsInside, ft_MO_ok, ct_MO_ok Y⟩ [(76, [0])] 50 76 _ _ σ h
set_option maxRecDepth 20000 in
theorem s_MO_closes_0 (Y : List kd) (d : Nat) (t : Nat) (v1 : Int32) (σ : sS) (Q : Option sv → sS → Prop)
    (h : CJ Y d y_MO_reads [sR t (.inl 6), sI v1] σ (rI fun r1 σ1 => ((¬ r1 = 0 → (vp_in ((up σ1 t 45 ((σ1 t 45) - 1)) t 45) 100 ∧ (vp_in ((up σ1 t 45 ((σ1 t 45) - 1)) t 45) 100 ∧ (vp_in ((up σ1 t 45 ((σ1 t 45) - 1)) (t + 30) (Int32.toNatClampNeg ((up σ1 t 45 ((σ1 t 45) - 1)) t 45))) 21 ∧ (((1 : Int32) = 0 ∨ (1 : Int32) = 1) ∧ Q (some (sI 1)) (up (up σ1 t 45 ((σ1 t 45) - 1)) (t + 3) (Int32.toNatClampNeg ((up σ1 t 45 ((σ1 t 45) - 1)) (t + 30) (Int32.toNatClampNeg ((up σ1 t 45 ((σ1 t 45) - 1)) t 45)))) ((up σ1 t 45 ((σ1 t 45) - 1)) (t + 33) (Int32.toNatClampNeg ((up σ1 t 45 ((σ1 t 45) - 1)) t 45))))))))) ∧ (r1 = 0 → (((0 : Int32) = 0 ∨ (0 : Int32) = 1) ∧ Q (some (sI 0)) σ1))))) :
    Jd Y (d + 1) y_MO_closes 0 [(0, sR t (.inl 6)), (1, sI v1)] [] σ Q :=
  blk_ok (d := (d + 1)) (y := y_MO_closes) (ft := ft_MO) (ct := ct_MO) (tab := tab_MO_closes) ⟨tk_MO_closes, ft_MO_ok, ct_MO_ok Y⟩ [] 29 0 _ _ σ h
set_option maxRecDepth 20000 in
theorem s_MO_reads_0 (Y : List kd) (d : Nat) (t : Nat) (v1 : Int32) (σ : sS) (Q : Option sv → sS → Prop)
    (h : CJ Y d y_MO_sign [sR t (.inl 6)] σ (rI fun r1 σ1 => ((r1 = v1 → (((1 : Int32) = 0 ∨ (1 : Int32) = 1) ∧ Q (some (sI 1)) (up σ1 t 43 ((σ1 t 43) + 1)))) ∧ (¬ r1 = v1 → (((0 : Int32) = 0 ∨ (0 : Int32) = 1) ∧ Q (some (sI 0)) σ1))))) :
    Jd Y (d + 1) y_MO_reads 0 [(0, sR t (.inl 6)), (1, sI v1)] [] σ Q :=
  blk_ok (d := (d + 1)) (y := y_MO_reads) (ft := ft_MO) (ct := ct_MO) (tab := tab_MO_reads) ⟨tk_MO_reads, ft_MO_ok, ct_MO_ok Y⟩ [] 16 0 _ _ σ h
set_option maxRecDepth 20000 in
theorem s_MO_readsField_0 (Y : List kd) (d : Nat) (t : Nat) (σ : sS) (Q : Option sv → sS → Prop)
    (h : CJ Y d y_MO_nameNow [sR t (.inl 6)] σ (rI fun r1 σ1 => ((¬ ((up σ1 t 46 r1) t 46) < 0 → (vp_in (((up σ1 t 46 r1) t 45) - 1) 100 ∧ (((iHas ((up σ1 t 46 r1) (t + 32) (Int32.toNatClampNeg (((up σ1 t 46 r1) t 45) - 1))) ((up σ1 t 46 r1) t 46)) = 0 → Jd Y (d + 1) y_MO_readsField 48 [(0, sR t (.inl 6))] [] (up σ1 t 46 r1) Q) ∧ (¬ (iHas ((up σ1 t 46 r1) (t + 32) (Int32.toNatClampNeg (((up σ1 t 46 r1) t 45) - 1))) ((up σ1 t 46 r1) t 46)) = 0 → CJ Y d y_MO_isBad [sR t (.inl 6), sI (σ t 43)] (up σ1 t 46 r1) (rN fun σ2 => Jd Y (d + 1) y_MO_readsField 48 [(0, sR t (.inl 6))] [] σ2 Q))))) ∧ (((up σ1 t 46 r1) t 46) < 0 → (((0 : Int32) = 0 ∨ (0 : Int32) = 1) ∧ Q (some (sI 0)) (up σ1 t 46 r1)))))) :
    Jd Y (d + 1) y_MO_readsField 0 [(0, sR t (.inl 6))] [] σ Q :=
  blk_ok (d := (d + 1)) (y := y_MO_readsField) (ft := ft_MO) (ct := ct_MO) (tab := tab_MO_readsField) ⟨tk_MO_readsField, ft_MO_ok, ct_MO_ok Y⟩ [(48, [0])] 45 0 _ _ σ h
set_option maxRecDepth 20000 in
theorem s_MO_readsField_48 (Y : List kd) (d : Nat) (t : Nat) (σ : sS) (Q : Option sv → sS → Prop)
    (h : (vp_in ((σ t 45) - 1) 100 ∧ (vp_in ((σ t 45) - 1) 100 ∧ CJ Y d y_MO_readsPart [sR t (.inl 6)] (up σ (t + 32) (Int32.toNatClampNeg ((σ t 45) - 1)) ((σ (t + 32) (Int32.toNatClampNeg ((σ t 45) - 1))) ||| (1 <<< ((σ t 46) &&& 31)))) (rI fun r1 σ1 => ((r1 = 0 ∨ r1 = 1) ∧ Q (some (sI r1)) σ1))))) :
    Jd Y (d + 1) y_MO_readsField 48 [(0, sR t (.inl 6))] [] σ Q :=
  blk_ok (d := (d + 1)) (y := y_MO_readsField) (ft := ft_MO) (ct := ct_MO) (tab := tab_MO_readsField) ⟨tk_MO_readsField, ft_MO_ok, ct_MO_ok Y⟩ [(48, [0])] 45 48 _ _ σ h
set_option maxRecDepth 20000 in
theorem s_MO_nameNow_0 (Y : List kd) (d : Nat) (t : Nat) (σ : sS) (Q : Option sv → sS → Prop)
    (h : CJ Y d y_MO_sign [sR t (.inl 6)] σ (rI fun r1 σ1 => ((¬ (iIn r1 97 101) = 0 → (vp_in (((up σ1 t 43 ((σ1 t 43) + 1)) t 43) - 1) 96 ∧ Q (some (sI ((((up σ1 t 43 ((σ1 t 43) + 1)) (t + 29) (Int32.toNatClampNeg (((up σ1 t 43 ((σ1 t 43) + 1)) t 43) - 1))) - 97) + 1))) (up σ1 t 43 ((σ1 t 43) + 1)))) ∧ ((iIn r1 97 101) = 0 → Q (some (sI (-9))) σ1)))) :
    Jd Y (d + 1) y_MO_nameNow 0 [(0, sR t (.inl 6))] [] σ Q :=
  blk_ok (d := (d + 1)) (y := y_MO_nameNow) (ft := ft_MO) (ct := ct_MO) (tab := tab_MO_nameNow) ⟨tk_MO_nameNow, ft_MO_ok, ct_MO_ok Y⟩ [] 28 0 _ _ σ h
set_option maxRecDepth 20000 in
theorem s_MO_check_0 (Y : List kd) (d : Nat) (t : Nat) (σ : sS) (Q : Option sv → sS → Prop)
    (h : CJ Y d y_MO_passesCheck [sR t (.inl 6), sI 1, sI 1] σ (rN fun σ1 => CJ Y d y_MO_readsAllCheck [sR t (.inl 6)] σ1 (rI fun r2 σ2 => ((r2 = 0 → Jd Y (d + 1) y_MO_check 32 [(0, sR t (.inl 6)), (1, sI r2)] [] (up σ2 t 42 0) Q) ∧ (¬ r2 = 0 → ((¬ ((up σ2 t 42 0) t 44) < 0 → Jd Y (d + 1) y_MO_check 32 [(0, sR t (.inl 6)), (1, sI r2)] [] (up σ2 t 42 0) Q) ∧ (((up σ2 t 42 0) t 44) < 0 → Q (some (sI ((up σ2 t 42 0) t 20))) (up σ2 t 42 0)))))))) :
    Jd Y (d + 1) y_MO_check 0 [(0, sR t (.inl 6))] [] σ Q :=
  blk_ok (d := (d + 1)) (y := y_MO_check) (ft := ft_MO) (ct := ct_MO) (tab := tab_MO_check) ⟨tk_MO_check, ft_MO_ok, ct_MO_ok Y⟩ [(32, [0, 1])] 36 0 _ _ σ h
set_option maxRecDepth 20000 in
theorem s_MO_check_32 (Y : List kd) (d : Nat) (t : Nat) (v1 : Int32) (σ : sS) (Q : Option sv → sS → Prop)
    (h : CJ Y d y_MO_passesCheck [sR t (.inl 6), sI 1, sI 0] σ (rN fun σ1 => ((v1 = 0 → Q (some (sI ((-1000) - (σ1 t 43)))) σ1) ∧ (¬ v1 = 0 → Q (some (sI ((-2000) - (σ1 t 44)))) σ1)))) :
    Jd Y (d + 1) y_MO_check 32 [(0, sR t (.inl 6)), (1, sI v1)] [] σ Q :=
  blk_ok (d := (d + 1)) (y := y_MO_check) (ft := ft_MO) (ct := ct_MO) (tab := tab_MO_check) ⟨tk_MO_check, ft_MO_ok, ct_MO_ok Y⟩ [(32, [0, 1])] 36 32 _ _ σ h
set_option maxRecDepth 20000 in
theorem s_MO_passesCheck_0 (Y : List kd) (d : Nat) (t : Nat) (v1 : Int32) (v2 : Int32) (σ : sS) (Q : Option sv → sS → Prop)
    (h : ((v2 = 0 ∨ v2 = 1) ∧ CJ Y d y_MO_passes [sR t (.inl 6), sR (t + 7) (.inr 25)] (up (up σ t 50 ((460 * v1) + 64)) t 49 v2) (rN fun σ1 => CJ Y d y_MO_passes [sR t (.inl 6), sR (t + 8) (.inr 25)] σ1 (rN fun σ2 => CJ Y d y_MO_passes [sR t (.inl 6), sR (t + 9) (.inr 25)] σ2 (rN fun σ3 => CJ Y d y_MO_passes [sR t (.inl 6), sR (t + 10) (.inr 25)] σ3 (rN fun σ4 => CJ Y d y_MO_passes [sR t (.inl 6), sR (t + 11) (.inr 25)] σ4 (rN fun σ5 => CJ Y d y_MO_passes [sR t (.inl 6), sR (t + 12) (.inr 25)] σ5 (rN fun σ6 => CJ Y d y_MO_passes [sR t (.inl 6), sR (t + 13) (.inr 25)] σ6 (rN fun σ7 => CJ Y d y_MO_passes [sR t (.inl 6), sR (t + 14) (.inr 25)] σ7 (rN fun σ8 => CJ Y d y_MO_passes [sR t (.inl 6), sR (t + 15) (.inr 25)] σ8 (rN fun σ9 => CJ Y d y_MO_passes [sR t (.inl 6), sR (t + 16) (.inr 33)] σ9 (rN fun σ10 => CJ Y d y_MO_passes [sR t (.inl 6), sR (t + 17) (.inr 33)] σ10 (rN fun σ11 => CJ Y d y_MO_passes [sR t (.inl 6), sR (t + 18) (.inr 33)] σ11 (rN fun σ12 => CJ Y d y_MO_passes [sR t (.inl 6), sR (t + 19) (.inr 33)] σ12 (rN fun σ13 => CJ Y d y_MO_passOne [sR t (.inl 6), sI (σ13 t 20)] σ13 (rI fun r14 σ14 => CJ Y d y_MO_passOne [sR t (.inl 6), sI ((up σ14 t 20 r14) t 21)] (up σ14 t 20 r14) (rI fun r15 σ15 => CJ Y d y_MO_passOne [sR t (.inl 6), sI ((up σ15 t 21 r15) t 22)] (up σ15 t 21 r15) (rI fun r16 σ16 => Q none (up σ16 t 22 r16))))))))))))))))))) :
    Jd Y (d + 1) y_MO_passesCheck 0 [(0, sR t (.inl 6)), (1, sI v1), (2, sI v2)] [] σ Q :=
  blk_ok (d := (d + 1)) (y := y_MO_passesCheck) (ft := ft_MO) (ct := ct_MO) (tab := tab_MO_passesCheck) ⟨tk_MO_passesCheck, ft_MO_ok, ct_MO_ok Y⟩ [] 83 0 _ _ σ h
set_option maxRecDepth 20000 in
theorem s_MO_readsAllCheck_0 (Y : List kd) (d : Nat) (t : Nat) (σ : sS) (Q : Option sv → sS → Prop)
    (h : CJ Y d y_MO_readsCheck [sR t (.inl 6)] (up (up (up (up (up (up (up σ t 43 0) t 44 (-1)) t 45 0) t 20 0) t 23 0) t 21 0) t 22 0) (rI fun r1 σ1 => Jd Y (d + 1) y_MO_readsAllCheck 40 [(0, sR t (.inl 6)), (1, sI r1)] [] σ1 Q)) :
    Jd Y (d + 1) y_MO_readsAllCheck 0 [(0, sR t (.inl 6))] [] σ Q :=
  blk_ok (d := (d + 1)) (y := y_MO_readsAllCheck) (ft := ft_MO) (ct := ct_MO) (tab := tab_MO_readsAllCheck) ⟨tk_MO_readsAllCheck, ft_MO_ok, ct_MO_ok Y⟩ [(40, [0, 1]), (59, [0, 1])] 46 0 _ _ σ h
set_option maxRecDepth 20000 in
theorem s_MO_readsAllCheck_40 (Y : List kd) (d : Nat) (t : Nat) (v1 : Int32) (σ : sS) (Q : Option sv → sS → Prop)
    (h : ((v1 = 0 → Jd Y (d + 1) y_MO_readsAllCheck 59 [(0, sR t (.inl 6)), (1, sI v1)] [] σ Q) ∧ (¬ v1 = 0 → ((¬ (0 : Int32) < (σ t 45) → Jd Y (d + 1) y_MO_readsAllCheck 59 [(0, sR t (.inl 6)), (1, sI v1)] [] σ Q) ∧ ((0 : Int32) < (σ t 45) → CJ Y d y_MO_readsInCheck [sR t (.inl 6)] σ (rI fun r1 σ1 => Jd Y (d + 1) y_MO_readsAllCheck 40 [(0, sR t (.inl 6)), (1, sI r1)] [] σ1 Q)))))) :
    Jd Y (d + 1) y_MO_readsAllCheck 40 [(0, sR t (.inl 6)), (1, sI v1)] [] σ Q :=
  blk_ok (d := (d + 1)) (y := y_MO_readsAllCheck) (ft := ft_MO) (ct := ct_MO) (tab := tab_MO_readsAllCheck) ⟨tk_MO_readsAllCheck, ft_MO_ok, ct_MO_ok Y⟩ [(40, [0, 1]), (59, [0, 1])] 46 40 _ _ σ h
set_option maxRecDepth 20000 in
theorem s_MO_readsAllCheck_59 (Y : List kd) (d : Nat) (t : Nat) (v1 : Int32) (σ : sS) (Q : Option sv → sS → Prop)
    (h : ((v1 = 0 → (((0 : Int32) = 0 ∨ (0 : Int32) = 1) ∧ Q (some (sI 0)) σ)) ∧ (¬ v1 = 0 → ((¬ (σ t 43) = (σ t 42) → (((0 : Int32) = 0 ∨ (0 : Int32) = 1) ∧ Q (some (sI 0)) σ)) ∧ ((σ t 43) = (σ t 42) → (((1 : Int32) = 0 ∨ (1 : Int32) = 1) ∧ Q (some (sI 1)) σ)))))) :
    Jd Y (d + 1) y_MO_readsAllCheck 59 [(0, sR t (.inl 6)), (1, sI v1)] [] σ Q :=
  blk_ok (d := (d + 1)) (y := y_MO_readsAllCheck) (ft := ft_MO) (ct := ct_MO) (tab := tab_MO_readsAllCheck) ⟨tk_MO_readsAllCheck, ft_MO_ok, ct_MO_ok Y⟩ [(40, [0, 1]), (59, [0, 1])] 46 59 _ _ σ h
set_option maxRecDepth 20000 in
theorem s_MO_readsCheck_0 (Y : List kd) (d : Nat) (t : Nat) (σ : sS) (Q : Option sv → sS → Prop)
    (h : CJ Y d y_MO_sign [sR t (.inl 6)] σ (rI fun r1 σ1 => CJ Y d y_MO_isInside [sR t (.inl 6)] σ1 (rI fun r2 σ2 => ((r1 = 42 → Jd Y (d + 1) y_MO_readsCheck 66 [(0, sR t (.inl 6)), (1, sI r1), (2, sI r2)] [] σ2 Q) ∧ (¬ r1 = 42 → ((r1 = 35 → Jd Y (d + 1) y_MO_readsCheck 66 [(0, sR t (.inl 6)), (1, sI r1), (2, sI r2)] [] σ2 Q) ∧ (¬ r1 = 35 → ((r1 = 33 → Jd Y (d + 1) y_MO_readsCheck 66 [(0, sR t (.inl 6)), (1, sI r1), (2, sI r2)] [] σ2 Q) ∧ (¬ r1 = 33 → ((r1 = 126 → Jd Y (d + 1) y_MO_readsCheck 66 [(0, sR t (.inl 6)), (1, sI r1), (2, sI r2)] [] σ2 Q) ∧ (¬ r1 = 126 → ((r1 = 123 → Jd Y (d + 1) y_MO_readsCheck 66 [(0, sR t (.inl 6)), (1, sI r1), (2, sI r2)] [] σ2 Q) ∧ (¬ r1 = 123 → ((r1 = 64 → Jd Y (d + 1) y_MO_readsCheck 66 [(0, sR t (.inl 6)), (1, sI r1), (2, sI r2)] [] σ2 Q) ∧ (¬ r1 = 64 → ((r1 = 38 → Jd Y (d + 1) y_MO_readsCheck 66 [(0, sR t (.inl 6)), (1, sI r1), (2, sI r2)] [] σ2 Q) ∧ (¬ r1 = 38 → ((r1 = 47 → Jd Y (d + 1) y_MO_readsCheck 66 [(0, sR t (.inl 6)), (1, sI r1), (2, sI r2)] [] σ2 Q) ∧ (¬ r1 = 47 → ((r1 = 94 → Jd Y (d + 1) y_MO_readsCheck 66 [(0, sR t (.inl 6)), (1, sI r1), (2, sI r2)] [] σ2 Q) ∧ (¬ r1 = 94 → (((0 : Int32) = 0 ∨ (0 : Int32) = 1) ∧ Q (some (sI 0)) σ2)))))))))))))))))))))) :
    Jd Y (d + 1) y_MO_readsCheck 0 [(0, sR t (.inl 6))] [] σ Q :=
  blk_ok (d := (d + 1)) (y := y_MO_readsCheck) (ft := ft_MO) (ct := ct_MO) (tab := tab_MO_readsCheck) ⟨tk_MO_readsCheck, ft_MO_ok, ct_MO_ok Y⟩ [(66, [0, 1, 2]), (87, [0, 1, 2, 3]), (104, [0, 1, 2, 3]), (122, [0, 3])] 79 0 _ _ σ h
set_option maxRecDepth 20000 in
theorem s_MO_readsCheck_66 (Y : List kd) (d : Nat) (t : Nat) (v1 : Int32) (v2 : Int32) (σ : sS) (Q : Option sv → sS → Prop)
    (h : CJ Y d y_MO_beginsCheck [sR t (.inl 6), sI v1] σ (rI fun r1 σ1 => ((¬ v1 = 35 → Jd Y (d + 1) y_MO_readsCheck 87 [(0, sR t (.inl 6)), (1, sI v1), (2, sI v2), (3, sI r1)] [] σ1 Q) ∧ (v1 = 35 → CJ Y d y_MO_readsBounds [sR t (.inl 6), sI r1, sI 2] σ1 (rI fun r2 σ2 => ((r2 = 0 → (((0 : Int32) = 0 ∨ (0 : Int32) = 1) ∧ Q (some (sI 0)) σ2)) ∧ (¬ r2 = 0 → Jd Y (d + 1) y_MO_readsCheck 87 [(0, sR t (.inl 6)), (1, sI v1), (2, sI v2), (3, sI r1)] [] σ2 Q))))))) :
    Jd Y (d + 1) y_MO_readsCheck 66 [(0, sR t (.inl 6)), (1, sI v1), (2, sI v2)] [] σ Q :=
  blk_ok (d := (d + 1)) (y := y_MO_readsCheck) (ft := ft_MO) (ct := ct_MO) (tab := tab_MO_readsCheck) ⟨tk_MO_readsCheck, ft_MO_ok, ct_MO_ok Y⟩ [(66, [0, 1, 2]), (87, [0, 1, 2, 3]), (104, [0, 1, 2, 3]), (122, [0, 3])] 79 66 _ _ σ h
set_option maxRecDepth 20000 in
theorem s_MO_readsCheck_87 (Y : List kd) (d : Nat) (t : Nat) (v1 : Int32) (v2 : Int32) (v3 : Int32) (σ : sS) (Q : Option sv → sS → Prop)
    (h : ((¬ v1 = 64 → Jd Y (d + 1) y_MO_readsCheck 104 [(0, sR t (.inl 6)), (1, sI v1), (2, sI v2), (3, sI v3)] [] σ Q) ∧ (v1 = 64 → CJ Y d y_MO_readsBounds [sR t (.inl 6), sI v3, sI 1] σ (rI fun r1 σ1 => ((¬ r1 = 0 → Jd Y (d + 1) y_MO_readsCheck 104 [(0, sR t (.inl 6)), (1, sI v1), (2, sI v2), (3, sI v3)] [] σ1 Q) ∧ (r1 = 0 → (((0 : Int32) = 0 ∨ (0 : Int32) = 1) ∧ Q (some (sI 0)) σ1))))))) :
    Jd Y (d + 1) y_MO_readsCheck 87 [(0, sR t (.inl 6)), (1, sI v1), (2, sI v2), (3, sI v3)] [] σ Q :=
  blk_ok (d := (d + 1)) (y := y_MO_readsCheck) (ft := ft_MO) (ct := ct_MO) (tab := tab_MO_readsCheck) ⟨tk_MO_readsCheck, ft_MO_ok, ct_MO_ok Y⟩ [(66, [0, 1, 2]), (87, [0, 1, 2, 3]), (104, [0, 1, 2, 3]), (122, [0, 3])] 79 87 _ _ σ h
set_option maxRecDepth 20000 in
theorem s_MO_readsCheck_104 (Y : List kd) (d : Nat) (t : Nat) (v1 : Int32) (v2 : Int32) (v3 : Int32) (σ : sS) (Q : Option sv → sS → Prop)
    (h : ((v1 = 42 → Jd Y (d + 1) y_MO_readsCheck 122 [(0, sR t (.inl 6)), (3, sI v3)] [] σ Q) ∧ (¬ v1 = 42 → ((v1 = 35 → Jd Y (d + 1) y_MO_readsCheck 122 [(0, sR t (.inl 6)), (3, sI v3)] [] σ Q) ∧ (¬ v1 = 35 → ((¬ v1 = 94 → CJ Y d y_MO_opens [sR t (.inl 6), sI v3, sI v1, sI v2] σ (rN fun σ1 => (((1 : Int32) = 0 ∨ (1 : Int32) = 1) ∧ Q (some (sI 1)) σ1))) ∧ (v1 = 94 → Jd Y (d + 1) y_MO_readsCheck 122 [(0, sR t (.inl 6)), (3, sI v3)] [] σ Q))))))) :
    Jd Y (d + 1) y_MO_readsCheck 104 [(0, sR t (.inl 6)), (1, sI v1), (2, sI v2), (3, sI v3)] [] σ Q :=
  blk_ok (d := (d + 1)) (y := y_MO_readsCheck) (ft := ft_MO) (ct := ct_MO) (tab := tab_MO_readsCheck) ⟨tk_MO_readsCheck, ft_MO_ok, ct_MO_ok Y⟩ [(66, [0, 1, 2]), (87, [0, 1, 2, 3]), (104, [0, 1, 2, 3]), (122, [0, 3])] 79 104 _ _ σ h
set_option maxRecDepth 20000 in
theorem s_MO_readsCheck_122 (Y : List kd) (d : Nat) (t : Nat) (v3 : Int32) (σ : sS) (Q : Option sv → sS → Prop)
    (h : CJ Y d y_MO_endsCheck [sR t (.inl 6), sI v3] σ (rN fun σ1 => (((1 : Int32) = 0 ∨ (1 : Int32) = 1) ∧ Q (some (sI 1)) σ1))) :
    Jd Y (d + 1) y_MO_readsCheck 122 [(0, sR t (.inl 6)), (3, sI v3)] [] σ Q :=
  blk_ok (d := (d + 1)) (y := y_MO_readsCheck) (ft := ft_MO) (ct := ct_MO) (tab := tab_MO_readsCheck) ⟨tk_MO_readsCheck, ft_MO_ok, ct_MO_ok Y⟩ [(66, [0, 1, 2]), (87, [0, 1, 2, 3]), (104, [0, 1, 2, 3]), (122, [0, 3])] 79 122 _ _ σ h
set_option maxRecDepth 20000 in
theorem s_MO_isInside_0 (Y : List kd) (d : Nat) (t : Nat) (σ : sS) (Q : Option sv → sS → Prop)
    (h : ((¬ (0 : Int32) < (σ t 45) → (((0 : Int32) = 0 ∨ (0 : Int32) = 1) ∧ Q (some (sI 0)) σ)) ∧ ((0 : Int32) < (σ t 45) → (vp_in ((σ t 45) - 1) 100 ∧ (((σ (t + 34) (Int32.toNatClampNeg ((σ t 45) - 1))) = 1 → (((1 : Int32) = 0 ∨ (1 : Int32) = 1) ∧ Q (some (sI 1)) σ)) ∧ (¬ (σ (t + 34) (Int32.toNatClampNeg ((σ t 45) - 1))) = 1 → (vp_in ((σ t 45) - 1) 100 ∧ (((σ (t + 31) (Int32.toNatClampNeg ((σ t 45) - 1))) = 123 → (((1 : Int32) = 0 ∨ (1 : Int32) = 1) ∧ Q (some (sI 1)) σ)) ∧ (¬ (σ (t + 31) (Int32.toNatClampNeg ((σ t 45) - 1))) = 123 → (vp_in ((σ t 45) - 1) 100 ∧ ((¬ (σ (t + 31) (Int32.toNatClampNeg ((σ t 45) - 1))) = 64 → (((0 : Int32) = 0 ∨ (0 : Int32) = 1) ∧ Q (some (sI 0)) σ)) ∧ ((σ (t + 31) (Int32.toNatClampNeg ((σ t 45) - 1))) = 64 → (((1 : Int32) = 0 ∨ (1 : Int32) = 1) ∧ Q (some (sI 1)) σ))))))))))))) :
    Jd Y d y_MO_isInside 0 [(0, sR t (.inl 6))] [] σ Q :=
  blk_ok (d := d) (y := y_MO_isInside) (ft := ft_MO) (ct := ct_MO) (tab := tab_MO_isInside) ⟨tk_MO_isInside, ft_MO_ok, ct_MO_ok Y⟩ [] 36 0 _ _ σ h
set_option maxRecDepth 20000 in
theorem s_MO_beginsCheck_0 (Y : List kd) (d : Nat) (t : Nat) (v1 : Int32) (σ : sS) (Q : Option sv → sS → Prop)
    (h : ((¬ (σ t 20) < 24 → Jd Y (d + 1) y_MO_beginsCheck 18 [(0, sR t (.inl 6)), (1, sI v1)] [sI 24] σ Q) ∧ ((σ t 20) < 24 → Jd Y (d + 1) y_MO_beginsCheck 18 [(0, sR t (.inl 6)), (1, sI v1)] [sI (σ t 20)] σ Q))) :
    Jd Y (d + 1) y_MO_beginsCheck 0 [(0, sR t (.inl 6)), (1, sI v1)] [] σ Q :=
  blk_ok (d := (d + 1)) (y := y_MO_beginsCheck) (ft := ft_MO) (ct := ct_MO) (tab := tab_MO_beginsCheck) ⟨tk_MO_beginsCheck, ft_MO_ok, ct_MO_ok Y⟩ [(18, [0, 1]), (49, [0, 1, 2]), (57, [0, 1, 2]), (73, [0, 1, 2])] 79 0 _ _ σ h
set_option maxRecDepth 20000 in
theorem s_MO_beginsCheck_18 (Y : List kd) (d : Nat) (t : Nat) (v1 : Int32) (s0 : Int32) (σ : sS) (Q : Option sv → sS → Prop)
    (h : ((¬ (σ t 20) < 24 → Jd Y (d + 1) y_MO_beginsCheck 49 [(0, sR t (.inl 6)), (1, sI v1), (2, sI s0)] [] σ Q) ∧ ((σ t 20) < 24 → ((¬ v1 = 94 → Jd Y (d + 1) y_MO_beginsCheck 57 [(0, sR t (.inl 6)), (1, sI v1), (2, sI s0)] [] σ Q) ∧ (v1 = 94 → CJ Y d y_MO_isInside [sR t (.inl 6)] σ (rI fun r1 σ1 => ((r1 = 0 → Jd Y (d + 1) y_MO_beginsCheck 49 [(0, sR t (.inl 6)), (1, sI v1), (2, sI s0)] [] σ1 Q) ∧ (¬ r1 = 0 → ((¬ (σ1 t 23) = 3 → Jd Y (d + 1) y_MO_beginsCheck 57 [(0, sR t (.inl 6)), (1, sI v1), (2, sI s0)] [] σ1 Q) ∧ ((σ1 t 23) = 3 → Jd Y (d + 1) y_MO_beginsCheck 49 [(0, sR t (.inl 6)), (1, sI v1), (2, sI s0)] [] σ1 Q)))))))))) :
    Jd Y (d + 1) y_MO_beginsCheck 18 [(0, sR t (.inl 6)), (1, sI v1)] [sI s0] σ Q :=
  blk_ok (d := (d + 1)) (y := y_MO_beginsCheck) (ft := ft_MO) (ct := ct_MO) (tab := tab_MO_beginsCheck) ⟨tk_MO_beginsCheck, ft_MO_ok, ct_MO_ok Y⟩ [(18, [0, 1]), (49, [0, 1, 2]), (57, [0, 1, 2]), (73, [0, 1, 2])] 79 18 _ _ σ h
set_option maxRecDepth 20000 in
theorem s_MO_beginsCheck_49 (Y : List kd) (d : Nat) (t : Nat) (v1 : Int32) (v2 : Int32) (σ : sS) (Q : Option sv → sS → Prop)
    (h : CJ Y d y_MO_isBad [sR t (.inl 6), sI (σ t 43)] σ (rN fun σ1 => Jd Y (d + 1) y_MO_beginsCheck 57 [(0, sR t (.inl 6)), (1, sI v1), (2, sI v2)] [] σ1 Q)) :
    Jd Y (d + 1) y_MO_beginsCheck 49 [(0, sR t (.inl 6)), (1, sI v1), (2, sI v2)] [] σ Q :=
  blk_ok (d := (d + 1)) (y := y_MO_beginsCheck) (ft := ft_MO) (ct := ct_MO) (tab := tab_MO_beginsCheck) ⟨tk_MO_beginsCheck, ft_MO_ok, ct_MO_ok Y⟩ [(18, [0, 1]), (49, [0, 1, 2]), (57, [0, 1, 2]), (73, [0, 1, 2])] 79 49 _ _ σ h
set_option maxRecDepth 20000 in
theorem s_MO_beginsCheck_57 (Y : List kd) (d : Nat) (t : Nat) (v1 : Int32) (v2 : Int32) (σ : sS) (Q : Option sv → sS → Prop)
    (h : ((¬ v1 = 94 → Jd Y (d + 1) y_MO_beginsCheck 73 [(0, sR t (.inl 6)), (1, sI v1), (2, sI v2)] [sI 0, sI (σ t 23), sR t (.inl 6)] σ Q) ∧ (v1 = 94 → Jd Y (d + 1) y_MO_beginsCheck 73 [(0, sR t (.inl 6)), (1, sI v1), (2, sI v2)] [sI 1, sI (σ t 23), sR t (.inl 6)] σ Q))) :
    Jd Y (d + 1) y_MO_beginsCheck 57 [(0, sR t (.inl 6)), (1, sI v1), (2, sI v2)] [] σ Q :=
  blk_ok (d := (d + 1)) (y := y_MO_beginsCheck) (ft := ft_MO) (ct := ct_MO) (tab := tab_MO_beginsCheck) ⟨tk_MO_beginsCheck, ft_MO_ok, ct_MO_ok Y⟩ [(18, [0, 1]), (49, [0, 1, 2]), (57, [0, 1, 2]), (73, [0, 1, 2])] 79 57 _ _ σ h
set_option maxRecDepth 20000 in
theorem s_MO_beginsCheck_73 (Y : List kd) (d : Nat) (t : Nat) (v1 : Int32) (v2 : Int32) (s0 : Int32) (s1 : Int32) (b2 : Nat) (σ : sS) (Q : Option sv → sS → Prop)
    (h : (vp_in v2 25 ∧ (vp_in v2 25 ∧ (vp_in v2 25 ∧ (vp_in v2 25 ∧ (vp_in v2 25 ∧ Q (some (sI v2)) (up (up (up (up (up (up (up (up σ b2 23 (s1 + s0)) (t + 7) (Int32.toNatClampNeg v2) v1) (t + 8) (Int32.toNatClampNeg v2) 0) (t + 9) (Int32.toNatClampNeg v2) 0) (t + 10) (Int32.toNatClampNeg v2) 0) (t + 11) (Int32.toNatClampNeg v2) 0) t 20 (((up (up (up (up (up (up σ b2 23 (s1 + s0)) (t + 7) (Int32.toNatClampNeg v2) v1) (t + 8) (Int32.toNatClampNeg v2) 0) (t + 9) (Int32.toNatClampNeg v2) 0) (t + 10) (Int32.toNatClampNeg v2) 0) (t + 11) (Int32.toNatClampNeg v2) 0) t 20) + 1)) t 43 (((up (up (up (up (up (up (up σ b2 23 (s1 + s0)) (t + 7) (Int32.toNatClampNeg v2) v1) (t + 8) (Int32.toNatClampNeg v2) 0) (t + 9) (Int32.toNatClampNeg v2) 0) (t + 10) (Int32.toNatClampNeg v2) 0) (t + 11) (Int32.toNatClampNeg v2) 0) t 20 (((up (up (up (up (up (up σ b2 23 (s1 + s0)) (t + 7) (Int32.toNatClampNeg v2) v1) (t + 8) (Int32.toNatClampNeg v2) 0) (t + 9) (Int32.toNatClampNeg v2) 0) (t + 10) (Int32.toNatClampNeg v2) 0) (t + 11) (Int32.toNatClampNeg v2) 0) t 20) + 1)) t 43) + 1)))))))) :
    Jd Y (d + 1) y_MO_beginsCheck 73 [(0, sR t (.inl 6)), (1, sI v1), (2, sI v2)] [sI s0, sI s1, sR b2 (.inl 6)] σ Q :=
  blk_ok (d := (d + 1)) (y := y_MO_beginsCheck) (ft := ft_MO) (ct := ct_MO) (tab := tab_MO_beginsCheck) ⟨tk_MO_beginsCheck, ft_MO_ok, ct_MO_ok Y⟩ [(18, [0, 1]), (49, [0, 1, 2]), (57, [0, 1, 2]), (73, [0, 1, 2])] 79 73 _ _ σ h
set_option maxRecDepth 20000 in
theorem s_MO_readsBounds_0 (Y : List kd) (d : Nat) (t : Nat) (v1 : Int32) (v2 : Int32) (σ : sS) (Q : Option sv → sS → Prop)
    (h : Jd Y (d + 1) y_MO_readsBounds 13 [(0, sR t (.inl 6)), (1, sI v1), (2, sI v2), (3, sI ((σ t 43) - 1)), (4, sI 0), (5, sI 0)] [] σ Q) :
    Jd Y (d + 1) y_MO_readsBounds 0 [(0, sR t (.inl 6)), (1, sI v1), (2, sI v2)] [] σ Q :=
  blk_ok (d := (d + 1)) (y := y_MO_readsBounds) (ft := ft_MO) (ct := ct_MO) (tab := tab_MO_readsBounds) ⟨tk_MO_readsBounds, ft_MO_ok, ct_MO_ok Y⟩ [(13, [0, 1, 2, 3, 4, 5]), (53, [0, 1, 2, 3, 5]), (80, [0, 1, 2, 3, 4, 5])] 64 0 _ _ σ h
set_option maxRecDepth 20000 in
theorem s_MO_readsBounds_13 (Y : List kd) (d : Nat) (t : Nat) (v1 : Int32) (v2 : Int32) (v3 : Int32) (v4 : Int32) (v5 : Int32) (σ : sS) (Q : Option sv → sS → Prop)
    (h : ((¬ v5 < (2 * v2) → (vp_in v1 25 ∧ (vp_in v1 25 ∧ ((¬ (σ (t + 9) (Int32.toNatClampNeg v1)) < (σ (t + 8) (Int32.toNatClampNeg v1)) → (((1 : Int32) = 0 ∨ (1 : Int32) = 1) ∧ Q (some (sI 1)) σ)) ∧ ((σ (t + 9) (Int32.toNatClampNeg v1)) < (σ (t + 8) (Int32.toNatClampNeg v1)) → CJ Y d y_MO_isBad [sR t (.inl 6), sI v3] σ (rN fun σ1 => (((1 : Int32) = 0 ∨ (1 : Int32) = 1) ∧ Q (some (sI 1)) σ1))))))) ∧ (v5 < (2 * v2) → CJ Y d y_MO_digit [sR t (.inl 6)] σ (rI fun r2 σ2 => ((¬ r2 < 0 → ((¬ v5 = v2 → Jd Y (d + 1) y_MO_readsBounds 53 [(0, sR t (.inl 6)), (1, sI v1), (2, sI v2), (3, sI v3), (5, sI v5)] [sI ((10 * v4) + r2)] σ2 Q) ∧ (v5 = v2 → Jd Y (d + 1) y_MO_readsBounds 53 [(0, sR t (.inl 6)), (1, sI v1), (2, sI v2), (3, sI v3), (5, sI v5)] [sI r2] σ2 Q))) ∧ (r2 < 0 → (((0 : Int32) = 0 ∨ (0 : Int32) = 1) ∧ Q (some (sI 0)) σ2))))))) :
    Jd Y (d + 1) y_MO_readsBounds 13 [(0, sR t (.inl 6)), (1, sI v1), (2, sI v2), (3, sI v3), (4, sI v4), (5, sI v5)] [] σ Q :=
  blk_ok (d := (d + 1)) (y := y_MO_readsBounds) (ft := ft_MO) (ct := ct_MO) (tab := tab_MO_readsBounds) ⟨tk_MO_readsBounds, ft_MO_ok, ct_MO_ok Y⟩ [(13, [0, 1, 2, 3, 4, 5]), (53, [0, 1, 2, 3, 5]), (80, [0, 1, 2, 3, 4, 5])] 64 13 _ _ σ h
set_option maxRecDepth 20000 in
theorem s_MO_readsBounds_53 (Y : List kd) (d : Nat) (t : Nat) (v1 : Int32) (v2 : Int32) (v3 : Int32) (v5 : Int32) (s0 : Int32) (σ : sS) (Q : Option sv → sS → Prop)
    (h : ((¬ v5 < v2 → (vp_in v1 25 ∧ Jd Y (d + 1) y_MO_readsBounds 80 [(0, sR t (.inl 6)), (1, sI v1), (2, sI v2), (3, sI v3), (4, sI s0), (5, sI v5)] [] (up σ (t + 9) (Int32.toNatClampNeg v1) s0) Q)) ∧ (v5 < v2 → (vp_in v1 25 ∧ Jd Y (d + 1) y_MO_readsBounds 80 [(0, sR t (.inl 6)), (1, sI v1), (2, sI v2), (3, sI v3), (4, sI s0), (5, sI v5)] [] (up σ (t + 8) (Int32.toNatClampNeg v1) s0) Q)))) :
    Jd Y (d + 1) y_MO_readsBounds 53 [(0, sR t (.inl 6)), (1, sI v1), (2, sI v2), (3, sI v3), (5, sI v5)] [sI s0] σ Q :=
  blk_ok (d := (d + 1)) (y := y_MO_readsBounds) (ft := ft_MO) (ct := ct_MO) (tab := tab_MO_readsBounds) ⟨tk_MO_readsBounds, ft_MO_ok, ct_MO_ok Y⟩ [(13, [0, 1, 2, 3, 4, 5]), (53, [0, 1, 2, 3, 5]), (80, [0, 1, 2, 3, 4, 5])] 64 53 _ _ σ h
set_option maxRecDepth 20000 in
theorem s_MO_readsBounds_80 (Y : List kd) (d : Nat) (t : Nat) (v1 : Int32) (v2 : Int32) (v3 : Int32) (v4 : Int32) (v5 : Int32) (σ : sS) (Q : Option sv → sS → Prop)
    (h : Jd Y (d + 1) y_MO_readsBounds 13 [(0, sR t (.inl 6)), (1, sI v1), (2, sI v2), (3, sI v3), (4, sI v4), (5, sI (v5 + 1))] [] σ Q) :
    Jd Y (d + 1) y_MO_readsBounds 80 [(0, sR t (.inl 6)), (1, sI v1), (2, sI v2), (3, sI v3), (4, sI v4), (5, sI v5)] [] σ Q :=
  blk_ok (d := (d + 1)) (y := y_MO_readsBounds) (ft := ft_MO) (ct := ct_MO) (tab := tab_MO_readsBounds) ⟨tk_MO_readsBounds, ft_MO_ok, ct_MO_ok Y⟩ [(13, [0, 1, 2, 3, 4, 5]), (53, [0, 1, 2, 3, 5]), (80, [0, 1, 2, 3, 4, 5])] 64 80 _ _ σ h
set_option maxRecDepth 20000 in
theorem s_MO_endsCheck_0 (Y : List kd) (d : Nat) (t : Nat) (v1 : Int32) (σ : sS) (Q : Option sv → sS → Prop)
    (h : ((¬ (0 : Int32) < (σ t 45) → Jd Y d y_MO_endsCheck 14 [(0, sR t (.inl 6)), (2, sI v1)] [sI 0] σ Q) ∧ ((0 : Int32) < (σ t 45) → Jd Y d y_MO_endsCheck 14 [(0, sR t (.inl 6)), (2, sI v1)] [sI 1] σ Q))) :
    Jd Y d y_MO_endsCheck 0 [(0, sR t (.inl 6)), (1, sI v1)] [] σ Q :=
  blk_ok (d := d) (y := y_MO_endsCheck) (ft := ft_MO) (ct := ct_MO) (tab := tab_MO_endsCheck) ⟨tk_MO_endsCheck, ft_MO_ok, ct_MO_ok Y⟩ [(14, [0, 2]), (15, [0, 2, 3]), (91, [0, 4, 5]), (126, [0, 5]), (151, [0, 2])] 92 0 _ _ σ h
set_option maxRecDepth 20000 in
theorem s_MO_endsCheck_14 (Y : List kd) (d : Nat) (t : Nat) (v2 : Int32) (s0 : Int32) (σ : sS) (Q : Option sv → sS → Prop)
    (h : Jd Y d y_MO_endsCheck 15 [(0, sR t (.inl 6)), (2, sI v2), (3, sI s0)] [] σ Q) :
    Jd Y d y_MO_endsCheck 14 [(0, sR t (.inl 6)), (2, sI v2)] [sI s0] σ Q :=
  blk_ok (d := d) (y := y_MO_endsCheck) (ft := ft_MO) (ct := ct_MO) (tab := tab_MO_endsCheck) ⟨tk_MO_endsCheck, ft_MO_ok, ct_MO_ok Y⟩ [(14, [0, 2]), (15, [0, 2, 3]), (91, [0, 4, 5]), (126, [0, 5]), (151, [0, 2])] 92 14 _ _ σ h
set_option maxRecDepth 20000 in
theorem s_MO_endsCheck_15 (Y : List kd) (d : Nat) (t : Nat) (v2 : Int32) (v3 : Int32) (σ : sS) (Q : Option sv → sS → Prop)
    (h : ((v3 = 0 → Q none σ) ∧ (¬ v3 = 0 → (vp_in ((σ t 45) - 1) 100 ∧ (vp_in ((σ t 45) - 1) 100 ∧ ((¬ (σ (t + 31) (Int32.toNatClampNeg ((σ t 45) - 1))) = 123 → (vp_in ((σ t 45) - 1) 100 ∧ ((¬ (σ (t + 33) (Int32.toNatClampNeg ((σ t 45) - 1))) = 0 → (vp_in (σ (t + 30) (Int32.toNatClampNeg ((σ t 45) - 1))) 25 ∧ Jd Y d y_MO_endsCheck 91 [(0, sR t (.inl 6)), (4, sI ((σ t 45) - 1)), (5, sI (σ (t + 30) (Int32.toNatClampNeg ((σ t 45) - 1))))] [] (up σ (t + 11) (Int32.toNatClampNeg (σ (t + 30) (Int32.toNatClampNeg ((σ t 45) - 1)))) v2) Q)) ∧ ((σ (t + 33) (Int32.toNatClampNeg ((σ t 45) - 1))) = 0 → (vp_in (σ (t + 30) (Int32.toNatClampNeg ((σ t 45) - 1))) 25 ∧ Jd Y d y_MO_endsCheck 91 [(0, sR t (.inl 6)), (4, sI ((σ t 45) - 1)), (5, sI (σ (t + 30) (Int32.toNatClampNeg ((σ t 45) - 1))))] [] (up σ (t + 10) (Int32.toNatClampNeg (σ (t + 30) (Int32.toNatClampNeg ((σ t 45) - 1)))) v2) Q))))) ∧ ((σ (t + 31) (Int32.toNatClampNeg ((σ t 45) - 1))) = 123 → (vp_in ((σ t 45) - 1) 100 ∧ (vp_in (σ (t + 33) (Int32.toNatClampNeg ((σ t 45) - 1))) 25 ∧ Q none (up σ (t + 15) (Int32.toNatClampNeg (σ (t + 33) (Int32.toNatClampNeg ((σ t 45) - 1)))) v2)))))))))) :
    Jd Y d y_MO_endsCheck 15 [(0, sR t (.inl 6)), (2, sI v2), (3, sI v3)] [] σ Q :=
  blk_ok (d := d) (y := y_MO_endsCheck) (ft := ft_MO) (ct := ct_MO) (tab := tab_MO_endsCheck) ⟨tk_MO_endsCheck, ft_MO_ok, ct_MO_ok Y⟩ [(14, [0, 2]), (15, [0, 2, 3]), (91, [0, 4, 5]), (126, [0, 5]), (151, [0, 2])] 92 15 _ _ σ h
set_option maxRecDepth 20000 in
theorem s_MO_endsCheck_91 (Y : List kd) (d : Nat) (t : Nat) (v4 : Int32) (v5 : Int32) (σ : sS) (Q : Option sv → sS → Prop)
    (h : (vp_in v4 100 ∧ (vp_in v4 100 ∧ (vp_in v4 100 ∧ ((¬ ((up σ (t + 33) (Int32.toNatClampNeg v4) ((σ (t + 33) (Int32.toNatClampNeg v4)) + 1)) (t + 31) (Int32.toNatClampNeg v4)) = 47 → Jd Y d y_MO_endsCheck 126 [(0, sR t (.inl 6)), (5, sI v5)] [] (up σ (t + 33) (Int32.toNatClampNeg v4) ((σ (t + 33) (Int32.toNatClampNeg v4)) + 1)) Q) ∧ (((up σ (t + 33) (Int32.toNatClampNeg v4) ((σ (t + 33) (Int32.toNatClampNeg v4)) + 1)) (t + 31) (Int32.toNatClampNeg v4)) = 47 → (vp_in v4 100 ∧ ((¬ ((up σ (t + 33) (Int32.toNatClampNeg v4) ((σ (t + 33) (Int32.toNatClampNeg v4)) + 1)) (t + 33) (Int32.toNatClampNeg v4)) = 1 → Jd Y d y_MO_endsCheck 126 [(0, sR t (.inl 6)), (5, sI v5)] [] (up σ (t + 33) (Int32.toNatClampNeg v4) ((σ (t + 33) (Int32.toNatClampNeg v4)) + 1)) Q) ∧ (((up σ (t + 33) (Int32.toNatClampNeg v4) ((σ (t + 33) (Int32.toNatClampNeg v4)) + 1)) (t + 33) (Int32.toNatClampNeg v4)) = 1 → Q none (up σ (t + 33) (Int32.toNatClampNeg v4) ((σ (t + 33) (Int32.toNatClampNeg v4)) + 1))))))))))) :
    Jd Y d y_MO_endsCheck 91 [(0, sR t (.inl 6)), (4, sI v4), (5, sI v5)] [] σ Q :=
  blk_ok (d := d) (y := y_MO_endsCheck) (ft := ft_MO) (ct := ct_MO) (tab := tab_MO_endsCheck) ⟨tk_MO_endsCheck, ft_MO_ok, ct_MO_ok Y⟩ [(14, [0, 2]), (15, [0, 2, 3]), (91, [0, 4, 5]), (126, [0, 5]), (151, [0, 2])] 92 91 _ _ σ h
set_option maxRecDepth 20000 in
theorem s_MO_endsCheck_126 (Y : List kd) (d : Nat) (t : Nat) (v5 : Int32) (σ : sS) (Q : Option sv → sS → Prop)
    (h : ((¬ (0 : Int32) < ((up σ t 45 ((σ t 45) - 1)) t 45) → Jd Y d y_MO_endsCheck 151 [(0, sR t (.inl 6)), (2, sI v5)] [sI 0] (up σ t 45 ((σ t 45) - 1)) Q) ∧ ((0 : Int32) < ((up σ t 45 ((σ t 45) - 1)) t 45) → Jd Y d y_MO_endsCheck 151 [(0, sR t (.inl 6)), (2, sI v5)] [sI 1] (up σ t 45 ((σ t 45) - 1)) Q))) :
    Jd Y d y_MO_endsCheck 126 [(0, sR t (.inl 6)), (5, sI v5)] [] σ Q :=
  blk_ok (d := d) (y := y_MO_endsCheck) (ft := ft_MO) (ct := ct_MO) (tab := tab_MO_endsCheck) ⟨tk_MO_endsCheck, ft_MO_ok, ct_MO_ok Y⟩ [(14, [0, 2]), (15, [0, 2, 3]), (91, [0, 4, 5]), (126, [0, 5]), (151, [0, 2])] 92 126 _ _ σ h
set_option maxRecDepth 20000 in
theorem s_MO_endsCheck_151 (Y : List kd) (d : Nat) (t : Nat) (v2 : Int32) (s0 : Int32) (σ : sS) (Q : Option sv → sS → Prop)
    (h : Jd Y d y_MO_endsCheck 15 [(0, sR t (.inl 6)), (2, sI v2), (3, sI s0)] [] σ Q) :
    Jd Y d y_MO_endsCheck 151 [(0, sR t (.inl 6)), (2, sI v2)] [sI s0] σ Q :=
  blk_ok (d := d) (y := y_MO_endsCheck) (ft := ft_MO) (ct := ct_MO) (tab := tab_MO_endsCheck) ⟨tk_MO_endsCheck, ft_MO_ok, ct_MO_ok Y⟩ [(14, [0, 2]), (15, [0, 2, 3]), (91, [0, 4, 5]), (126, [0, 5]), (151, [0, 2])] 92 151 _ _ σ h
set_option maxRecDepth 20000 in
theorem s_MO_readsInCheck_0 (Y : List kd) (d : Nat) (t : Nat) (σ : sS) (Q : Option sv → sS → Prop)
    (h : (vp_in ((σ t 45) - 1) 100 ∧ (((σ (t + 31) (Int32.toNatClampNeg ((σ t 45) - 1))) = 123 → CJ Y d y_MO_sign [sR t (.inl 6)] σ (rI fun r1 σ1 => ((r1 = 60 → Jd Y (d + 1) y_MO_readsInCheck 39 [(0, sR t (.inl 6))] [] σ1 Q) ∧ (¬ r1 = 60 → CJ Y d y_MO_sign [sR t (.inl 6)] σ1 (rI fun r2 σ2 => ((¬ r2 = 61 → CJ Y d y_MO_closesRecord [sR t (.inl 6)] σ2 (rI fun r3 σ3 => ((¬ r3 = 0 → (((1 : Int32) = 0 ∨ (1 : Int32) = 1) ∧ Q (some (sI 1)) σ3)) ∧ (r3 = 0 → (vp_in ((σ3 t 45) - 1) 100 ∧ ((¬ (iHas (σ3 (t + 32) (Int32.toNatClampNeg ((σ3 t 45) - 1))) 0) = 0 → (((0 : Int32) = 0 ∨ (0 : Int32) = 1) ∧ Q (some (sI 0)) σ3)) ∧ ((iHas (σ3 (t + 32) (Int32.toNatClampNeg ((σ3 t 45) - 1))) 0) = 0 → CJ Y d y_MO_readsCheckField [sR t (.inl 6)] σ3 (rI fun r4 σ4 => ((r4 = 0 → (((0 : Int32) = 0 ∨ (0 : Int32) = 1) ∧ Q (some (sI 0)) σ4)) ∧ (¬ r4 = 0 → (((1 : Int32) = 0 ∨ (1 : Int32) = 1) ∧ Q (some (sI 1)) σ4))))))))))) ∧ (r2 = 61 → Jd Y (d + 1) y_MO_readsInCheck 39 [(0, sR t (.inl 6))] [] σ2 Q))))))) ∧ (¬ (σ (t + 31) (Int32.toNatClampNeg ((σ t 45) - 1))) = 123 → CJ Y d y_MO_readsCheck [sR t (.inl 6)] σ (rI fun r5 σ5 => ((r5 = 0 ∨ r5 = 1) ∧ Q (some (sI r5)) σ5)))))) :
    Jd Y (d + 1) y_MO_readsInCheck 0 [(0, sR t (.inl 6))] [] σ Q :=
  blk_ok (d := (d + 1)) (y := y_MO_readsInCheck) (ft := ft_MO) (ct := ct_MO) (tab := tab_MO_readsInCheck) ⟨tk_MO_readsInCheck, ft_MO_ok, ct_MO_ok Y⟩ [(39, [0])] 45 0 _ _ σ h
set_option maxRecDepth 20000 in
theorem s_MO_readsInCheck_39 (Y : List kd) (d : Nat) (t : Nat) (σ : sS) (Q : Option sv → sS → Prop)
    (h : CJ Y d y_MO_readsWaiter [sR t (.inl 6)] σ (rI fun r1 σ1 => ((r1 = 0 ∨ r1 = 1) ∧ Q (some (sI r1)) σ1))) :
    Jd Y (d + 1) y_MO_readsInCheck 39 [(0, sR t (.inl 6))] [] σ Q :=
  blk_ok (d := (d + 1)) (y := y_MO_readsInCheck) (ft := ft_MO) (ct := ct_MO) (tab := tab_MO_readsInCheck) ⟨tk_MO_readsInCheck, ft_MO_ok, ct_MO_ok Y⟩ [(39, [0])] 45 39 _ _ σ h
set_option maxRecDepth 20000 in
theorem s_MO_readsWaiter_0 (Y : List kd) (d : Nat) (t : Nat) (σ : sS) (Q : Option sv → sS → Prop)
    (h : CJ Y d y_MO_sign [sR t (.inl 6)] σ (rI fun r1 σ1 => CJ Y d y_MO_nameNow [sR t (.inl 6)] (up σ1 t 43 ((σ1 t 43) + 1)) (rI fun r2 σ2 => ((¬ r2 < 0 → CJ Y d y_MO_nameNow [sR t (.inl 6)] σ2 (rI fun r3 σ3 => Jd Y (d + 1) y_MO_readsWaiter 38 [(0, sR t (.inl 6)), (1, sI (σ t 43)), (2, sI r1), (3, sI r2)] [sI r3] σ3 Q)) ∧ (r2 < 0 → Jd Y (d + 1) y_MO_readsWaiter 38 [(0, sR t (.inl 6)), (1, sI (σ t 43)), (2, sI r1), (3, sI r2)] [sI (-9)] σ2 Q))))) :
    Jd Y (d + 1) y_MO_readsWaiter 0 [(0, sR t (.inl 6))] [] σ Q :=
  blk_ok (d := (d + 1)) (y := y_MO_readsWaiter) (ft := ft_MO) (ct := ct_MO) (tab := tab_MO_readsWaiter) ⟨tk_MO_readsWaiter, ft_MO_ok, ct_MO_ok Y⟩ [(38, [0, 1, 2, 3]), (95, [0, 1, 2, 3, 4, 5]), (100, [0, 2, 3, 4, 5])] 93 0 _ _ σ h
set_option maxRecDepth 20000 in
theorem s_MO_readsWaiter_38 (Y : List kd) (d : Nat) (t : Nat) (v1 : Int32) (v2 : Int32) (v3 : Int32) (s0 : Int32) (σ : sS) (Q : Option sv → sS → Prop)
    (h : ((¬ s0 < 0 → (vp_in ((σ t 45) - 1) 100 ∧ (vp_in ((σ t 45) - 1) 100 ∧ (vp_in ((σ t 45) - 1) 100 ∧ (((iHas ((up σ (t + 32) (Int32.toNatClampNeg ((σ t 45) - 1)) ((σ (t + 32) (Int32.toNatClampNeg ((σ t 45) - 1))) ||| 1)) (t + 32) (Int32.toNatClampNeg ((σ t 45) - 1))) v3) = 0 → Jd Y (d + 1) y_MO_readsWaiter 95 [(0, sR t (.inl 6)), (1, sI v1), (2, sI v2), (3, sI v3), (4, sI s0), (5, sI ((σ t 45) - 1))] [] (up σ (t + 32) (Int32.toNatClampNeg ((σ t 45) - 1)) ((σ (t + 32) (Int32.toNatClampNeg ((σ t 45) - 1))) ||| 1)) Q) ∧ (¬ (iHas ((up σ (t + 32) (Int32.toNatClampNeg ((σ t 45) - 1)) ((σ (t + 32) (Int32.toNatClampNeg ((σ t 45) - 1))) ||| 1)) (t + 32) (Int32.toNatClampNeg ((σ t 45) - 1))) v3) = 0 → (vp_in ((σ t 45) - 1) 100 ∧ ((¬ (iHas ((up σ (t + 32) (Int32.toNatClampNeg ((σ t 45) - 1)) ((σ (t + 32) (Int32.toNatClampNeg ((σ t 45) - 1))) ||| 1)) (t + 32) (Int32.toNatClampNeg ((σ t 45) - 1))) s0) = 0 → Jd Y (d + 1) y_MO_readsWaiter 100 [(0, sR t (.inl 6)), (2, sI v2), (3, sI v3), (4, sI s0), (5, sI ((σ t 45) - 1))] [] (up σ (t + 32) (Int32.toNatClampNeg ((σ t 45) - 1)) ((σ (t + 32) (Int32.toNatClampNeg ((σ t 45) - 1))) ||| 1)) Q) ∧ ((iHas ((up σ (t + 32) (Int32.toNatClampNeg ((σ t 45) - 1)) ((σ (t + 32) (Int32.toNatClampNeg ((σ t 45) - 1))) ||| 1)) (t + 32) (Int32.toNatClampNeg ((σ t 45) - 1))) s0) = 0 → Jd Y (d + 1) y_MO_readsWaiter 95 [(0, sR t (.inl 6)), (1, sI v1), (2, sI v2), (3, sI v3), (4, sI s0), (5, sI ((σ t 45) - 1))] [] (up σ (t + 32) (Int32.toNatClampNeg ((σ t 45) - 1)) ((σ (t + 32) (Int32.toNatClampNeg ((σ t 45) - 1))) ||| 1)) Q))))))))) ∧ (s0 < 0 → (((0 : Int32) = 0 ∨ (0 : Int32) = 1) ∧ Q (some (sI 0)) σ)))) :
    Jd Y (d + 1) y_MO_readsWaiter 38 [(0, sR t (.inl 6)), (1, sI v1), (2, sI v2), (3, sI v3)] [sI s0] σ Q :=
  blk_ok (d := (d + 1)) (y := y_MO_readsWaiter) (ft := ft_MO) (ct := ct_MO) (tab := tab_MO_readsWaiter) ⟨tk_MO_readsWaiter, ft_MO_ok, ct_MO_ok Y⟩ [(38, [0, 1, 2, 3]), (95, [0, 1, 2, 3, 4, 5]), (100, [0, 2, 3, 4, 5])] 93 38 _ _ σ h
set_option maxRecDepth 20000 in
theorem s_MO_readsWaiter_95 (Y : List kd) (d : Nat) (t : Nat) (v1 : Int32) (v2 : Int32) (v3 : Int32) (v4 : Int32) (v5 : Int32) (σ : sS) (Q : Option sv → sS → Prop)
    (h : CJ Y d y_MO_isBad [sR t (.inl 6), sI v1] σ (rN fun σ1 => Jd Y (d + 1) y_MO_readsWaiter 100 [(0, sR t (.inl 6)), (2, sI v2), (3, sI v3), (4, sI v4), (5, sI v5)] [] σ1 Q)) :
    Jd Y (d + 1) y_MO_readsWaiter 95 [(0, sR t (.inl 6)), (1, sI v1), (2, sI v2), (3, sI v3), (4, sI v4), (5, sI v5)] [] σ Q :=
  blk_ok (d := (d + 1)) (y := y_MO_readsWaiter) (ft := ft_MO) (ct := ct_MO) (tab := tab_MO_readsWaiter) ⟨tk_MO_readsWaiter, ft_MO_ok, ct_MO_ok Y⟩ [(38, [0, 1, 2, 3]), (95, [0, 1, 2, 3, 4, 5]), (100, [0, 2, 3, 4, 5])] 93 95 _ _ σ h
set_option maxRecDepth 20000 in
theorem s_MO_readsWaiter_100 (Y : List kd) (d : Nat) (t : Nat) (v2 : Int32) (v3 : Int32) (v4 : Int32) (v5 : Int32) (σ : sS) (Q : Option sv → sS → Prop)
    (h : (vp_in v5 100 ∧ (vp_in (σ t 22) 33 ∧ (vp_in ((up σ (t + 16) (Int32.toNatClampNeg (σ t 22)) (σ (t + 30) (Int32.toNatClampNeg v5))) t 22) 33 ∧ (vp_in ((up (up σ (t + 16) (Int32.toNatClampNeg (σ t 22)) (σ (t + 30) (Int32.toNatClampNeg v5))) (t + 17) (Int32.toNatClampNeg ((up σ (t + 16) (Int32.toNatClampNeg (σ t 22)) (σ (t + 30) (Int32.toNatClampNeg v5))) t 22)) v2) t 22) 33 ∧ (vp_in ((up (up (up σ (t + 16) (Int32.toNatClampNeg (σ t 22)) (σ (t + 30) (Int32.toNatClampNeg v5))) (t + 17) (Int32.toNatClampNeg ((up σ (t + 16) (Int32.toNatClampNeg (σ t 22)) (σ (t + 30) (Int32.toNatClampNeg v5))) t 22)) v2) (t + 18) (Int32.toNatClampNeg ((up (up σ (t + 16) (Int32.toNatClampNeg (σ t 22)) (σ (t + 30) (Int32.toNatClampNeg v5))) (t + 17) (Int32.toNatClampNeg ((up σ (t + 16) (Int32.toNatClampNeg (σ t 22)) (σ (t + 30) (Int32.toNatClampNeg v5))) t 22)) v2) t 22)) v3) t 22) 33 ∧ (((1 : Int32) = 0 ∨ (1 : Int32) = 1) ∧ Q (some (sI 1)) (up (up (up (up (up σ (t + 16) (Int32.toNatClampNeg (σ t 22)) (σ (t + 30) (Int32.toNatClampNeg v5))) (t + 17) (Int32.toNatClampNeg ((up σ (t + 16) (Int32.toNatClampNeg (σ t 22)) (σ (t + 30) (Int32.toNatClampNeg v5))) t 22)) v2) (t + 18) (Int32.toNatClampNeg ((up (up σ (t + 16) (Int32.toNatClampNeg (σ t 22)) (σ (t + 30) (Int32.toNatClampNeg v5))) (t + 17) (Int32.toNatClampNeg ((up σ (t + 16) (Int32.toNatClampNeg (σ t 22)) (σ (t + 30) (Int32.toNatClampNeg v5))) t 22)) v2) t 22)) v3) (t + 19) (Int32.toNatClampNeg ((up (up (up σ (t + 16) (Int32.toNatClampNeg (σ t 22)) (σ (t + 30) (Int32.toNatClampNeg v5))) (t + 17) (Int32.toNatClampNeg ((up σ (t + 16) (Int32.toNatClampNeg (σ t 22)) (σ (t + 30) (Int32.toNatClampNeg v5))) t 22)) v2) (t + 18) (Int32.toNatClampNeg ((up (up σ (t + 16) (Int32.toNatClampNeg (σ t 22)) (σ (t + 30) (Int32.toNatClampNeg v5))) (t + 17) (Int32.toNatClampNeg ((up σ (t + 16) (Int32.toNatClampNeg (σ t 22)) (σ (t + 30) (Int32.toNatClampNeg v5))) t 22)) v2) t 22)) v3) t 22)) v4) t 22 (((up (up (up (up σ (t + 16) (Int32.toNatClampNeg (σ t 22)) (σ (t + 30) (Int32.toNatClampNeg v5))) (t + 17) (Int32.toNatClampNeg ((up σ (t + 16) (Int32.toNatClampNeg (σ t 22)) (σ (t + 30) (Int32.toNatClampNeg v5))) t 22)) v2) (t + 18) (Int32.toNatClampNeg ((up (up σ (t + 16) (Int32.toNatClampNeg (σ t 22)) (σ (t + 30) (Int32.toNatClampNeg v5))) (t + 17) (Int32.toNatClampNeg ((up σ (t + 16) (Int32.toNatClampNeg (σ t 22)) (σ (t + 30) (Int32.toNatClampNeg v5))) t 22)) v2) t 22)) v3) (t + 19) (Int32.toNatClampNeg ((up (up (up σ (t + 16) (Int32.toNatClampNeg (σ t 22)) (σ (t + 30) (Int32.toNatClampNeg v5))) (t + 17) (Int32.toNatClampNeg ((up σ (t + 16) (Int32.toNatClampNeg (σ t 22)) (σ (t + 30) (Int32.toNatClampNeg v5))) t 22)) v2) (t + 18) (Int32.toNatClampNeg ((up (up σ (t + 16) (Int32.toNatClampNeg (σ t 22)) (σ (t + 30) (Int32.toNatClampNeg v5))) (t + 17) (Int32.toNatClampNeg ((up σ (t + 16) (Int32.toNatClampNeg (σ t 22)) (σ (t + 30) (Int32.toNatClampNeg v5))) t 22)) v2) t 22)) v3) t 22)) v4) t 22) + 1))))))))) :
    Jd Y (d + 1) y_MO_readsWaiter 100 [(0, sR t (.inl 6)), (2, sI v2), (3, sI v3), (4, sI v4), (5, sI v5)] [] σ Q :=
  blk_ok (d := (d + 1)) (y := y_MO_readsWaiter) (ft := ft_MO) (ct := ct_MO) (tab := tab_MO_readsWaiter) ⟨tk_MO_readsWaiter, ft_MO_ok, ct_MO_ok Y⟩ [(38, [0, 1, 2, 3]), (95, [0, 1, 2, 3, 4, 5]), (100, [0, 2, 3, 4, 5])] 93 100 _ _ σ h
set_option maxRecDepth 20000 in
theorem s_MO_closesRecord_0 (Y : List kd) (d : Nat) (t : Nat) (σ : sS) (Q : Option sv → sS → Prop)
    (h : CJ Y d y_MO_reads [sR t (.inl 6), sI 125] σ (rI fun r1 σ1 => ((¬ r1 = 0 → (vp_in ((up σ1 t 45 ((σ1 t 45) - 1)) t 45) 100 ∧ CJ Y d y_MO_endsCheck [sR t (.inl 6), sI ((up σ1 t 45 ((σ1 t 45) - 1)) (t + 30) (Int32.toNatClampNeg ((up σ1 t 45 ((σ1 t 45) - 1)) t 45)))] (up σ1 t 45 ((σ1 t 45) - 1)) (rN fun σ2 => (((1 : Int32) = 0 ∨ (1 : Int32) = 1) ∧ Q (some (sI 1)) σ2)))) ∧ (r1 = 0 → (((0 : Int32) = 0 ∨ (0 : Int32) = 1) ∧ Q (some (sI 0)) σ1))))) :
    Jd Y (d + 1) y_MO_closesRecord 0 [(0, sR t (.inl 6))] [] σ Q :=
  blk_ok (d := (d + 1)) (y := y_MO_closesRecord) (ft := ft_MO) (ct := ct_MO) (tab := tab_MO_closesRecord) ⟨tk_MO_closesRecord, ft_MO_ok, ct_MO_ok Y⟩ [] 23 0 _ _ σ h
set_option maxRecDepth 20000 in
theorem s_MO_readsCheckField_0 (Y : List kd) (d : Nat) (t : Nat) (σ : sS) (Q : Option sv → sS → Prop)
    (h : CJ Y d y_MO_reads [sR t (.inl 6), sI 46] σ (rI fun r1 σ1 => ((r1 = 0 → Jd Y (d + 1) y_MO_readsCheckField 19 [(0, sR t (.inl 6)), (1, sI (σ t 43))] [sI 0] σ1 Q) ∧ (¬ r1 = 0 → Jd Y (d + 1) y_MO_readsCheckField 19 [(0, sR t (.inl 6)), (1, sI (σ t 43))] [sI 1] σ1 Q)))) :
    Jd Y (d + 1) y_MO_readsCheckField 0 [(0, sR t (.inl 6))] [] σ Q :=
  blk_ok (d := (d + 1)) (y := y_MO_readsCheckField) (ft := ft_MO) (ct := ct_MO) (tab := tab_MO_readsCheckField) ⟨tk_MO_readsCheckField, ft_MO_ok, ct_MO_ok Y⟩ [(19, [0, 1]), (58, [0, 2, 3, 4]), (89, [0, 2, 3, 4])] 86 0 _ _ σ h
set_option maxRecDepth 20000 in
theorem s_MO_readsCheckField_19 (Y : List kd) (d : Nat) (t : Nat) (v1 : Int32) (s0 : Int32) (σ : sS) (Q : Option sv → sS → Prop)
    (h : CJ Y d y_MO_nameNow [sR t (.inl 6)] σ (rI fun r1 σ1 => ((¬ r1 < 0 → (vp_in ((σ1 t 45) - 1) 100 ∧ (((iHas (σ1 (t + 32) (Int32.toNatClampNeg ((σ1 t 45) - 1))) r1) = 0 → Jd Y (d + 1) y_MO_readsCheckField 58 [(0, sR t (.inl 6)), (2, sI s0), (3, sI r1), (4, sI ((σ1 t 45) - 1))] [] σ1 Q) ∧ (¬ (iHas (σ1 (t + 32) (Int32.toNatClampNeg ((σ1 t 45) - 1))) r1) = 0 → CJ Y d y_MO_isBad [sR t (.inl 6), sI v1] σ1 (rN fun σ2 => Jd Y (d + 1) y_MO_readsCheckField 58 [(0, sR t (.inl 6)), (2, sI s0), (3, sI r1), (4, sI ((σ1 t 45) - 1))] [] σ2 Q))))) ∧ (r1 < 0 → (((0 : Int32) = 0 ∨ (0 : Int32) = 1) ∧ Q (some (sI 0)) σ1))))) :
    Jd Y (d + 1) y_MO_readsCheckField 19 [(0, sR t (.inl 6)), (1, sI v1)] [sI s0] σ Q :=
  blk_ok (d := (d + 1)) (y := y_MO_readsCheckField) (ft := ft_MO) (ct := ct_MO) (tab := tab_MO_readsCheckField) ⟨tk_MO_readsCheckField, ft_MO_ok, ct_MO_ok Y⟩ [(19, [0, 1]), (58, [0, 2, 3, 4]), (89, [0, 2, 3, 4])] 86 19 _ _ σ h
set_option maxRecDepth 20000 in
theorem s_MO_readsCheckField_58 (Y : List kd) (d : Nat) (t : Nat) (v2 : Int32) (v3 : Int32) (v4 : Int32) (σ : sS) (Q : Option sv → sS → Prop)
    (h : (vp_in v4 100 ∧ (vp_in v4 100 ∧ ((¬ ((up σ (t + 32) (Int32.toNatClampNeg v4) ((σ (t + 32) (Int32.toNatClampNeg v4)) ||| (1 <<< (v3 &&& 31)))) t 21) < 24 → Jd Y (d + 1) y_MO_readsCheckField 89 [(0, sR t (.inl 6)), (2, sI v2), (3, sI v3), (4, sI v4)] [sI 24] (up σ (t + 32) (Int32.toNatClampNeg v4) ((σ (t + 32) (Int32.toNatClampNeg v4)) ||| (1 <<< (v3 &&& 31)))) Q) ∧ (((up σ (t + 32) (Int32.toNatClampNeg v4) ((σ (t + 32) (Int32.toNatClampNeg v4)) ||| (1 <<< (v3 &&& 31)))) t 21) < 24 → Jd Y (d + 1) y_MO_readsCheckField 89 [(0, sR t (.inl 6)), (2, sI v2), (3, sI v3), (4, sI v4)] [sI ((up σ (t + 32) (Int32.toNatClampNeg v4) ((σ (t + 32) (Int32.toNatClampNeg v4)) ||| (1 <<< (v3 &&& 31)))) t 21)] (up σ (t + 32) (Int32.toNatClampNeg v4) ((σ (t + 32) (Int32.toNatClampNeg v4)) ||| (1 <<< (v3 &&& 31)))) Q))))) :
    Jd Y (d + 1) y_MO_readsCheckField 58 [(0, sR t (.inl 6)), (2, sI v2), (3, sI v3), (4, sI v4)] [] σ Q :=
  blk_ok (d := (d + 1)) (y := y_MO_readsCheckField) (ft := ft_MO) (ct := ct_MO) (tab := tab_MO_readsCheckField) ⟨tk_MO_readsCheckField, ft_MO_ok, ct_MO_ok Y⟩ [(19, [0, 1]), (58, [0, 2, 3, 4]), (89, [0, 2, 3, 4])] 86 58 _ _ σ h
set_option maxRecDepth 20000 in
theorem s_MO_readsCheckField_89 (Y : List kd) (d : Nat) (t : Nat) (v2 : Int32) (v3 : Int32) (v4 : Int32) (s0 : Int32) (σ : sS) (Q : Option sv → sS → Prop)
    (h : (vp_in v4 100 ∧ (vp_in s0 25 ∧ (vp_in s0 25 ∧ (vp_in s0 25 ∧ (vp_in v4 100 ∧ CJ Y d y_MO_readsCheck [sR t (.inl 6)] (up (up (up (up (up σ (t + 12) (Int32.toNatClampNeg s0) (σ (t + 30) (Int32.toNatClampNeg v4))) (t + 13) (Int32.toNatClampNeg s0) v3) (t + 14) (Int32.toNatClampNeg s0) v2) (t + 33) (Int32.toNatClampNeg v4) s0) t 21 (((up (up (up (up σ (t + 12) (Int32.toNatClampNeg s0) (σ (t + 30) (Int32.toNatClampNeg v4))) (t + 13) (Int32.toNatClampNeg s0) v3) (t + 14) (Int32.toNatClampNeg s0) v2) (t + 33) (Int32.toNatClampNeg v4) s0) t 21) + 1)) (rI fun r1 σ1 => ((r1 = 0 ∨ r1 = 1) ∧ Q (some (sI r1)) σ1)))))))) :
    Jd Y (d + 1) y_MO_readsCheckField 89 [(0, sR t (.inl 6)), (2, sI v2), (3, sI v3), (4, sI v4)] [sI s0] σ Q :=
  blk_ok (d := (d + 1)) (y := y_MO_readsCheckField) (ft := ft_MO) (ct := ct_MO) (tab := tab_MO_readsCheckField) ⟨tk_MO_readsCheckField, ft_MO_ok, ct_MO_ok Y⟩ [(19, [0, 1]), (58, [0, 2, 3, 4]), (89, [0, 2, 3, 4])] 86 89 _ _ σ h
set_option maxRecDepth 20000 in
theorem s_MO_image_0 (Y : List kd) (d : Nat) (t : Nat) (σ : sS) (Q : Option sv → sS → Prop)
    (h : (((1 : Int32) = 0 ∨ (1 : Int32) = 1) ∧ CJ Y d y_MO_passesValue [sR t (.inl 6), sI 0, sI 1] (up σ t 48 1) (rN fun σ1 => CJ Y d y_MO_passesCheck [sR t (.inl 6), sI 0, sI 1] σ1 (rN fun σ2 => Q (some (sI (σ2 t 6))) σ2)))) :
    Jd Y (d + 1) y_MO_image 0 [(0, sR t (.inl 6))] [] σ Q :=
  blk_ok (d := (d + 1)) (y := y_MO_image) (ft := ft_MO) (ct := ct_MO) (tab := tab_MO_image) ⟨tk_MO_image, ft_MO_ok, ct_MO_ok Y⟩ [] 16 0 _ _ σ h
set_option maxRecDepth 20000 in
theorem s_MO_on_0 (Y : List kd) (d : Nat) (t : Nat) (σ : sS) (Q : Option sv → sS → Prop)
    (h : ((¬ (σ t 48) = 0 → CJ Y d y_MO_passesValue [sR t (.inl 6), sI 0, sI 0] σ (rN fun σ1 => CJ Y d y_MO_passesCheck [sR t (.inl 6), sI 0, sI 0] σ1 (rN fun σ2 => Q (some (sI (σ2 t 6))) σ2))) ∧ ((σ t 48) = 0 → CJ Y d y_MO_no [sR t (.inl 6), sI (-3)] σ (rI fun r3 σ3 => Q (some (sI r3)) σ3)))) :
    Jd Y (d + 1) y_MO_on 0 [(0, sR t (.inl 6))] [] σ Q :=
  blk_ok (d := (d + 1)) (y := y_MO_on) (ft := ft_MO) (ct := ct_MO) (tab := tab_MO_on) ⟨tk_MO_on, ft_MO_ok, ct_MO_ok Y⟩ [] 20 0 _ _ σ h
set_option maxRecDepth 20000 in
theorem s_MO_part_0 (Y : List kd) (d : Nat) (t : Nat) (v1 : Int32) (v2 : Int32) (σ : sS) (Q : Option sv → sS → Prop)
    (h : CJ Y d y_MO_partAt [sR t (.inl 6), sI v1] σ (rI fun r1 σ1 => ((¬ r1 < 0 → ((v2 = 0 → (vp_in r1 21 ∧ Q (some (sI (σ1 (t + 2) (Int32.toNatClampNeg r1)))) σ1)) ∧ (¬ v2 = 0 → ((v2 = 1 → (vp_in r1 21 ∧ ((¬ (σ1 (t + 2) (Int32.toNatClampNeg r1)) = 1 → (vp_in r1 21 ∧ Q (some (sI (σ1 (t + 3) (Int32.toNatClampNeg r1)))) σ1)) ∧ ((σ1 (t + 2) (Int32.toNatClampNeg r1)) = 1 → Q (some (sI 0)) σ1)))) ∧ (¬ v2 = 1 → ((v2 = 2 → (vp_in r1 21 ∧ Q (some (sI (σ1 (t + 5) (Int32.toNatClampNeg r1)))) σ1)) ∧ (¬ v2 = 2 → ((v2 = 3 → Q (some (sI r1)) σ1) ∧ (¬ v2 = 3 → CJ Y d y_MO_no [sR t (.inl 6), sI (-2)] σ1 (rI fun r2 σ2 => Q (some (sI r2)) σ2)))))))))) ∧ (r1 < 0 → CJ Y d y_MO_no [sR t (.inl 6), sI (-1)] σ1 (rI fun r3 σ3 => Q (some (sI r3)) σ3))))) :
    Jd Y (d + 1) y_MO_part 0 [(0, sR t (.inl 6)), (1, sI v1), (2, sI v2)] [] σ Q :=
  blk_ok (d := (d + 1)) (y := y_MO_part) (ft := ft_MO) (ct := ct_MO) (tab := tab_MO_part) ⟨tk_MO_part, ft_MO_ok, ct_MO_ok Y⟩ [] 43 0 _ _ σ h
set_option maxRecDepth 20000 in
theorem s_MO_partAt_0 (Y : List kd) (d : Nat) (t : Nat) (v1 : Int32) (σ : sS) (Q : Option sv → sS → Prop)
    (h : Jd Y d y_MO_partAt 2 [(0, sR t (.inl 6)), (1, sI v1), (2, sI 0)] [] σ Q) :
    Jd Y d y_MO_partAt 0 [(0, sR t (.inl 6)), (1, sI v1)] [] σ Q :=
  blk_ok (d := d) (y := y_MO_partAt) (ft := ft_MO) (ct := ct_MO) (tab := tab_MO_partAt) ⟨tk_MO_partAt, ft_MO_ok, ct_MO_ok Y⟩ [(2, [0, 1, 2])] 20 0 _ _ σ h
set_option maxRecDepth 20000 in
theorem s_MO_partAt_2 (Y : List kd) (d : Nat) (t : Nat) (v1 : Int32) (v2 : Int32) (σ : sS) (Q : Option sv → sS → Prop)
    (h : ((¬ v2 < (σ t 6) → Q (some (sI (-9))) σ) ∧ (v2 < (σ t 6) → (vp_in v2 21 ∧ ((¬ (σ (t + 6) (Int32.toNatClampNeg v2)) = v1 → Jd Y d y_MO_partAt 2 [(0, sR t (.inl 6)), (1, sI v1), (2, sI (v2 + 1))] [] σ Q) ∧ ((σ (t + 6) (Int32.toNatClampNeg v2)) = v1 → Q (some (sI v2)) σ)))))) :
    Jd Y d y_MO_partAt 2 [(0, sR t (.inl 6)), (1, sI v1), (2, sI v2)] [] σ Q :=
  blk_ok (d := d) (y := y_MO_partAt) (ft := ft_MO) (ct := ct_MO) (tab := tab_MO_partAt) ⟨tk_MO_partAt, ft_MO_ok, ct_MO_ok Y⟩ [(2, [0, 1, 2])] 20 2 _ _ σ h
set_option maxRecDepth 20000 in
theorem s_MO_path_0 (Y : List kd) (d : Nat) (t : Nat) (v1 : Int32) (σ : sS) (Q : Option sv → sS → Prop)
    (h : (((iIn v1 0 ((σ t 6) - 1)) = 0 → CJ Y d y_MO_no [sR t (.inl 6), sI (-1)] σ (rI fun r1 σ1 => Q (some (sI r1)) σ1)) ∧ (¬ (iIn v1 0 ((σ t 6) - 1)) = 0 → (vp_in v1 21 ∧ Q (some (sI (σ (t + 6) (Int32.toNatClampNeg v1)))) σ)))) :
    Jd Y (d + 1) y_MO_path 0 [(0, sR t (.inl 6)), (1, sI v1)] [] σ Q :=
  blk_ok (d := (d + 1)) (y := y_MO_path) (ft := ft_MO) (ct := ct_MO) (tab := tab_MO_path) ⟨tk_MO_path, ft_MO_ok, ct_MO_ok Y⟩ [] 19 0 _ _ σ h
set_option maxRecDepth 20000 in
theorem s_MO_puts_0 (Y : List kd) (d : Nat) (t : Nat) (v1 : Int32) (v2 : Int32) (σ : sS) (Q : Option sv → sS → Prop)
    (h : CJ Y d y_MO_partAt [sR t (.inl 6), sI v1] σ (rI fun r1 σ1 => ((¬ r1 < 0 → Jd Y (d + 1) y_MO_puts 21 [(0, sR t (.inl 6)), (2, sI v2), (3, sI r1)] [sI (iBd v2 0 99)] σ1 Q) ∧ (r1 < 0 → Jd Y (d + 1) y_MO_puts 21 [(0, sR t (.inl 6)), (2, sI v2), (3, sI r1)] [sI (-1)] σ1 Q)))) :
    Jd Y (d + 1) y_MO_puts 0 [(0, sR t (.inl 6)), (1, sI v1), (2, sI v2)] [] σ Q :=
  blk_ok (d := (d + 1)) (y := y_MO_puts) (ft := ft_MO) (ct := ct_MO) (tab := tab_MO_puts) ⟨tk_MO_puts, ft_MO_ok, ct_MO_ok Y⟩ [(21, [0, 2, 3])] 33 0 _ _ σ h
set_option maxRecDepth 20000 in
theorem s_MO_puts_21 (Y : List kd) (d : Nat) (t : Nat) (v2 : Int32) (v3 : Int32) (s0 : Int32) (σ : sS) (Q : Option sv → sS → Prop)
    (h : ((s0 = 0 → (vp_in v3 21 ∧ CJ Y d y_MO_putsAt [sR t (.inl 6), sI v3, sI 0, sI v2] σ (rN fun σ1 => Q (some (sI (σ (t + 5) (Int32.toNatClampNeg v3)))) σ1))) ∧ (¬ s0 = 0 → CJ Y d y_MO_no [sR t (.inl 6), sI s0] σ (rI fun r2 σ2 => Q (some (sI r2)) σ2)))) :
    Jd Y (d + 1) y_MO_puts 21 [(0, sR t (.inl 6)), (2, sI v2), (3, sI v3)] [sI s0] σ Q :=
  blk_ok (d := (d + 1)) (y := y_MO_puts) (ft := ft_MO) (ct := ct_MO) (tab := tab_MO_puts) ⟨tk_MO_puts, ft_MO_ok, ct_MO_ok Y⟩ [(21, [0, 2, 3])] 33 21 _ _ σ h
set_option maxRecDepth 20000 in
theorem s_MO_putsAt_0 (Y : List kd) (d : Nat) (t : Nat) (v1 : Int32) (v2 : Int32) (v3 : Int32) (σ : sS) (Q : Option sv → sS → Prop)
    (h : (vp_in v1 21 ∧ CJ Y d y_MO_takesOut [sR t (.inl 6), sI (v1 + 1), sI ((σ (t + 5) (Int32.toNatClampNeg v1)) - 1)] σ (rN fun σ1 => (vp_in v1 21 ∧ (vp_in v1 21 ∧ CJ Y d y_MO_measures [sR t (.inl 6)] (up (up σ1 (t + 2) (Int32.toNatClampNeg v1) v2) (t + 3) (Int32.toNatClampNeg v1) v3) (rN fun σ2 => Q none σ2)))))) :
    Jd Y (d + 1) y_MO_putsAt 0 [(0, sR t (.inl 6)), (1, sI v1), (2, sI v2), (3, sI v3)] [] σ Q :=
  blk_ok (d := (d + 1)) (y := y_MO_putsAt) (ft := ft_MO) (ct := ct_MO) (tab := tab_MO_putsAt) ⟨tk_MO_putsAt, ft_MO_ok, ct_MO_ok Y⟩ [] 26 0 _ _ σ h
set_option maxRecDepth 20000 in
theorem s_MO_takesOut_0 (Y : List kd) (d : Nat) (t : Nat) (v1 : Int32) (v2 : Int32) (σ : sS) (Q : Option sv → sS → Prop)
    (h : Jd Y d y_MO_takesOut 12 [(0, sR t (.inl 6)), (2, sI v2), (3, sI v1)] [] (up σ t 6 ((σ t 6) - v2)) Q) :
    Jd Y d y_MO_takesOut 0 [(0, sR t (.inl 6)), (1, sI v1), (2, sI v2)] [] σ Q :=
  blk_ok (d := d) (y := y_MO_takesOut) (ft := ft_MO) (ct := ct_MO) (tab := tab_MO_takesOut) ⟨tk_MO_takesOut, ft_MO_ok, ct_MO_ok Y⟩ [(12, [0, 2, 3])] 47 0 _ _ σ h
set_option maxRecDepth 20000 in
theorem s_MO_takesOut_12 (Y : List kd) (d : Nat) (t : Nat) (v2 : Int32) (v3 : Int32) (σ : sS) (Q : Option sv → sS → Prop)
    (h : ((¬ v3 < (σ t 6) → Q none σ) ∧ (v3 < (σ t 6) → (vp_in (v3 + v2) 21 ∧ (vp_in v3 21 ∧ (vp_in (v3 + v2) 21 ∧ (vp_in v3 21 ∧ (vp_in (v3 + v2) 21 ∧ (vp_in v3 21 ∧ Jd Y d y_MO_takesOut 12 [(0, sR t (.inl 6)), (2, sI v2), (3, sI (v3 + 1))] [] (up (up (up σ (t + 2) (Int32.toNatClampNeg v3) (σ (t + 2) (Int32.toNatClampNeg (v3 + v2)))) (t + 3) (Int32.toNatClampNeg v3) ((up σ (t + 2) (Int32.toNatClampNeg v3) (σ (t + 2) (Int32.toNatClampNeg (v3 + v2)))) (t + 3) (Int32.toNatClampNeg (v3 + v2)))) (t + 4) (Int32.toNatClampNeg v3) ((up (up σ (t + 2) (Int32.toNatClampNeg v3) (σ (t + 2) (Int32.toNatClampNeg (v3 + v2)))) (t + 3) (Int32.toNatClampNeg v3) ((up σ (t + 2) (Int32.toNatClampNeg v3) (σ (t + 2) (Int32.toNatClampNeg (v3 + v2)))) (t + 3) (Int32.toNatClampNeg (v3 + v2)))) (t + 4) (Int32.toNatClampNeg (v3 + v2)))) Q))))))))) :
    Jd Y d y_MO_takesOut 12 [(0, sR t (.inl 6)), (2, sI v2), (3, sI v3)] [] σ Q :=
  blk_ok (d := d) (y := y_MO_takesOut) (ft := ft_MO) (ct := ct_MO) (tab := tab_MO_takesOut) ⟨tk_MO_takesOut, ft_MO_ok, ct_MO_ok Y⟩ [(12, [0, 2, 3])] 47 12 _ _ σ h
set_option maxRecDepth 20000 in
theorem s_MO_drops_0 (Y : List kd) (d : Nat) (t : Nat) (v1 : Int32) (σ : sS) (Q : Option sv → sS → Prop)
    (h : CJ Y d y_MO_partAt [sR t (.inl 6), sI v1] σ (rI fun r1 σ1 => ((¬ r1 < 0 → (vp_in r1 21 ∧ CJ Y d y_MO_putsAt [sR t (.inl 6), sI r1, sI 1, sI 0] σ1 (rN fun σ2 => Q (some (sI (σ1 (t + 5) (Int32.toNatClampNeg r1)))) σ2))) ∧ (r1 < 0 → CJ Y d y_MO_no [sR t (.inl 6), sI (-1)] σ1 (rI fun r3 σ3 => Q (some (sI r3)) σ3))))) :
    Jd Y (d + 1) y_MO_drops 0 [(0, sR t (.inl 6)), (1, sI v1)] [] σ Q :=
  blk_ok (d := (d + 1)) (y := y_MO_drops) (ft := ft_MO) (ct := ct_MO) (tab := tab_MO_drops) ⟨tk_MO_drops, ft_MO_ok, ct_MO_ok Y⟩ [] 24 0 _ _ σ h
set_option maxRecDepth 20000 in
theorem s_MO_faults_0 (Y : List kd) (d : Nat) (t : Nat) (σ : sS) (Q : Option sv → sS → Prop)
    (h : CJ Y d y_MO_manyNow [sR t (.inl 6)] σ (rI fun r1 σ1 => Q (some (sI r1)) σ1)) :
    Jd Y (d + 1) y_MO_faults 0 [(0, sR t (.inl 6))] [] σ Q :=
  blk_ok (d := (d + 1)) (y := y_MO_faults) (ft := ft_MO) (ct := ct_MO) (tab := tab_MO_faults) ⟨tk_MO_faults, ft_MO_ok, ct_MO_ok Y⟩ [] 5 0 _ _ σ h
set_option maxRecDepth 20000 in
theorem s_MO_manyNow_0 (Y : List kd) (d : Nat) (t : Nat) (σ : sS) (Q : Option sv → sS → Prop)
    (h : CJ Y d y_MO_findFaults [sR t (.inl 6)] σ (rN fun σ1 => Q (some (sI (σ1 t 33))) σ1)) :
    Jd Y (d + 1) y_MO_manyNow 0 [(0, sR t (.inl 6))] [] σ Q :=
  blk_ok (d := (d + 1)) (y := y_MO_manyNow) (ft := ft_MO) (ct := ct_MO) (tab := tab_MO_manyNow) ⟨tk_MO_manyNow, ft_MO_ok, ct_MO_ok Y⟩ [] 7 0 _ _ σ h
set_option maxRecDepth 20000 in
theorem s_MO_findFaults_0 (Y : List kd) (d : Nat) (t : Nat) (σ : sS) (Q : Option sv → sS → Prop)
    (h : CJ Y d y_MO_looks [sR t (.inl 6), sI 0, sI 0] (up (up (up σ t 33 0) t 34 0) t 35 0) (rN fun σ1 => Jd Y (d + 1) y_MO_findFaults 21 [(0, sR t (.inl 6))] [] σ1 Q)) :
    Jd Y (d + 1) y_MO_findFaults 0 [(0, sR t (.inl 6))] [] σ Q :=
  blk_ok (d := (d + 1)) (y := y_MO_findFaults) (ft := ft_MO) (ct := ct_MO) (tab := tab_MO_findFaults) ⟨tk_MO_findFaults, ft_MO_ok, ct_MO_ok Y⟩ [(21, [0])] 36 0 _ _ σ h
set_option maxRecDepth 20000 in
theorem s_MO_findFaults_21 (Y : List kd) (d : Nat) (t : Nat) (σ : sS) (Q : Option sv → sS → Prop)
    (h : ((¬ (0 : Int32) < (σ t 35) → Q none σ) ∧ ((0 : Int32) < (σ t 35) → (vp_in ((σ t 35) - 1) 400 ∧ (vp_in ((σ t 35) - 1) 400 ∧ CJ Y d y_MO_goesOn [sR t (.inl 6), sI (σ (t + 22) (Int32.toNatClampNeg ((σ t 35) - 1))), sI (σ (t + 23) (Int32.toNatClampNeg ((σ t 35) - 1)))] σ (rN fun σ1 => Jd Y (d + 1) y_MO_findFaults 21 [(0, sR t (.inl 6))] [] σ1 Q)))))) :
    Jd Y (d + 1) y_MO_findFaults 21 [(0, sR t (.inl 6))] [] σ Q :=
  blk_ok (d := (d + 1)) (y := y_MO_findFaults) (ft := ft_MO) (ct := ct_MO) (tab := tab_MO_findFaults) ⟨tk_MO_findFaults, ft_MO_ok, ct_MO_ok Y⟩ [(21, [0])] 36 21 _ _ σ h
set_option maxRecDepth 20000 in
theorem s_MO_looks_0 (Y : List kd) (d : Nat) (t : Nat) (v1 : Int32) (v2 : Int32) (σ : sS) (Q : Option sv → sS → Prop)
    (h : (vp_in (σ t 35) 400 ∧ (vp_in ((up σ (t + 22) (Int32.toNatClampNeg (σ t 35)) v1) t 35) 400 ∧ (vp_in ((up (up σ (t + 22) (Int32.toNatClampNeg (σ t 35)) v1) (t + 23) (Int32.toNatClampNeg ((up σ (t + 22) (Int32.toNatClampNeg (σ t 35)) v1) t 35)) v2) t 35) 400 ∧ Q none (up (up (up (up σ (t + 22) (Int32.toNatClampNeg (σ t 35)) v1) (t + 23) (Int32.toNatClampNeg ((up σ (t + 22) (Int32.toNatClampNeg (σ t 35)) v1) t 35)) v2) (t + 24) (Int32.toNatClampNeg ((up (up σ (t + 22) (Int32.toNatClampNeg (σ t 35)) v1) (t + 23) (Int32.toNatClampNeg ((up σ (t + 22) (Int32.toNatClampNeg (σ t 35)) v1) t 35)) v2) t 35)) 0) t 35 (((up (up (up σ (t + 22) (Int32.toNatClampNeg (σ t 35)) v1) (t + 23) (Int32.toNatClampNeg ((up σ (t + 22) (Int32.toNatClampNeg (σ t 35)) v1) t 35)) v2) (t + 24) (Int32.toNatClampNeg ((up (up σ (t + 22) (Int32.toNatClampNeg (σ t 35)) v1) (t + 23) (Int32.toNatClampNeg ((up σ (t + 22) (Int32.toNatClampNeg (σ t 35)) v1) t 35)) v2) t 35)) 0) t 35) + 1)))))) :
    Jd Y d y_MO_looks 0 [(0, sR t (.inl 6)), (1, sI v1), (2, sI v2)] [] σ Q :=
  blk_ok (d := d) (y := y_MO_looks) (ft := ft_MO) (ct := ct_MO) (tab := tab_MO_looks) ⟨tk_MO_looks, ft_MO_ok, ct_MO_ok Y⟩ [] 27 0 _ _ σ h
set_option maxRecDepth 20000 in
theorem s_MO_goesOn_0 (Y : List kd) (d : Nat) (t : Nat) (v1 : Int32) (v2 : Int32) (σ : sS) (Q : Option sv → sS → Prop)
    (h : (vp_in v1 25 ∧ (((σ (t + 7) (Int32.toNatClampNeg v1)) = 33 → CJ Y d y_MO_findsThere [sR t (.inl 6), sI v1, sI v2] σ (rN fun σ8 => Q none σ8)) ∧ (¬ (σ (t + 7) (Int32.toNatClampNeg v1)) = 33 → (((σ (t + 7) (Int32.toNatClampNeg v1)) = 35 → CJ Y d y_MO_findsNumber [sR t (.inl 6), sI v1, sI v2] σ (rN fun σ7 => Q none σ7)) ∧ (¬ (σ (t + 7) (Int32.toNatClampNeg v1)) = 35 → (((σ (t + 7) (Int32.toNatClampNeg v1)) = 38 → CJ Y d y_MO_findsAgain [sR t (.inl 6), sI v1, sI v2] σ (rN fun σ6 => Q none σ6)) ∧ (¬ (σ (t + 7) (Int32.toNatClampNeg v1)) = 38 → (((σ (t + 7) (Int32.toNatClampNeg v1)) = 47 → CJ Y d y_MO_findsEither [sR t (.inl 6), sI v1, sI v2] σ (rN fun σ5 => Q none σ5)) ∧ (¬ (σ (t + 7) (Int32.toNatClampNeg v1)) = 47 → (((σ (t + 7) (Int32.toNatClampNeg v1)) = 64 → CJ Y d y_MO_findsList [sR t (.inl 6), sI v1, sI v2] σ (rN fun σ4 => Q none σ4)) ∧ (¬ (σ (t + 7) (Int32.toNatClampNeg v1)) = 64 → (((σ (t + 7) (Int32.toNatClampNeg v1)) = 94 → CJ Y d y_MO_looksAs [sR t (.inl 6), sI 0] σ (rN fun σ3 => Q none σ3)) ∧ (¬ (σ (t + 7) (Int32.toNatClampNeg v1)) = 94 → (((σ (t + 7) (Int32.toNatClampNeg v1)) = 123 → CJ Y d y_MO_findsRecord [sR t (.inl 6), sI v1, sI v2] σ (rN fun σ2 => Q none σ2)) ∧ (¬ (σ (t + 7) (Int32.toNatClampNeg v1)) = 123 → (((σ (t + 7) (Int32.toNatClampNeg v1)) = 126 → CJ Y d y_MO_findsThere [sR t (.inl 6), sI v1, sI v2] σ (rN fun σ1 => Q none σ1)) ∧ (¬ (σ (t + 7) (Int32.toNatClampNeg v1)) = 126 → Q none (up σ t 35 ((σ t 35) - 1)))))))))))))))))))) :
    Jd Y (d + 1) y_MO_goesOn 0 [(0, sR t (.inl 6)), (1, sI v1), (2, sI v2)] [] σ Q :=
  blk_ok (d := (d + 1)) (y := y_MO_goesOn) (ft := ft_MO) (ct := ct_MO) (tab := tab_MO_goesOn) ⟨tk_MO_goesOn, ft_MO_ok, ct_MO_ok Y⟩ [] 48 0 _ _ σ h
set_option maxRecDepth 20000 in
theorem s_MO_findsNumber_0 (Y : List kd) (d : Nat) (t : Nat) (v1 : Int32) (v2 : Int32) (σ : sS) (Q : Option sv → sS → Prop)
    (h : (vp_in v2 21 ∧ ((((up σ t 35 ((σ t 35) - 1)) (t + 2) (Int32.toNatClampNeg v2)) = 0 → (vp_in v2 21 ∧ (vp_in v1 25 ∧ ((¬ ((up σ t 35 ((σ t 35) - 1)) (t + 3) (Int32.toNatClampNeg v2)) < ((up σ t 35 ((σ t 35) - 1)) (t + 8) (Int32.toNatClampNeg v1)) → (vp_in v2 21 ∧ (vp_in v1 25 ∧ ((¬ ((up σ t 35 ((σ t 35) - 1)) (t + 9) (Int32.toNatClampNeg v1)) < ((up σ t 35 ((σ t 35) - 1)) (t + 3) (Int32.toNatClampNeg v2)) → Q none (up σ t 35 ((σ t 35) - 1))) ∧ (((up σ t 35 ((σ t 35) - 1)) (t + 9) (Int32.toNatClampNeg v1)) < ((up σ t 35 ((σ t 35) - 1)) (t + 3) (Int32.toNatClampNeg v2)) → (vp_in v2 21 ∧ CJ Y d y_MO_finds [sR t (.inl 6), sI ((up σ t 35 ((σ t 35) - 1)) (t + 6) (Int32.toNatClampNeg v2)), sI 3] (up σ t 35 ((σ t 35) - 1)) (rN fun σ1 => Q none σ1))))))) ∧ (((up σ t 35 ((σ t 35) - 1)) (t + 3) (Int32.toNatClampNeg v2)) < ((up σ t 35 ((σ t 35) - 1)) (t + 8) (Int32.toNatClampNeg v1)) → (vp_in v2 21 ∧ CJ Y d y_MO_finds [sR t (.inl 6), sI ((up σ t 35 ((σ t 35) - 1)) (t + 6) (Int32.toNatClampNeg v2)), sI 2] (up σ t 35 ((σ t 35) - 1)) (rN fun σ2 => Q none σ2))))))) ∧ (¬ ((up σ t 35 ((σ t 35) - 1)) (t + 2) (Int32.toNatClampNeg v2)) = 0 → (vp_in v2 21 ∧ CJ Y d y_MO_finds [sR t (.inl 6), sI ((up σ t 35 ((σ t 35) - 1)) (t + 6) (Int32.toNatClampNeg v2)), sI 1] (up σ t 35 ((σ t 35) - 1)) (rN fun σ3 => Q none σ3)))))) :
    Jd Y (d + 1) y_MO_findsNumber 0 [(0, sR t (.inl 6)), (1, sI v1), (2, sI v2)] [] σ Q :=
  blk_ok (d := (d + 1)) (y := y_MO_findsNumber) (ft := ft_MO) (ct := ct_MO) (tab := tab_MO_findsNumber) ⟨tk_MO_findsNumber, ft_MO_ok, ct_MO_ok Y⟩ [] 55 0 _ _ σ h
set_option maxRecDepth 20000 in
theorem s_MO_finds_0 (Y : List kd) (d : Nat) (t : Nat) (v1 : Int32) (v2 : Int32) (σ : sS) (Q : Option sv → sS → Prop)
    (h : (vp_in (σ t 33) 16384 ∧ (vp_in ((up σ (t + 20) (Int32.toNatClampNeg (σ t 33)) v1) t 33) 16384 ∧ Q none (up (up (up σ (t + 20) (Int32.toNatClampNeg (σ t 33)) v1) (t + 21) (Int32.toNatClampNeg ((up σ (t + 20) (Int32.toNatClampNeg (σ t 33)) v1) t 33)) v2) t 33 (((up (up σ (t + 20) (Int32.toNatClampNeg (σ t 33)) v1) (t + 21) (Int32.toNatClampNeg ((up σ (t + 20) (Int32.toNatClampNeg (σ t 33)) v1) t 33)) v2) t 33) + 1))))) :
    Jd Y d y_MO_finds 0 [(0, sR t (.inl 6)), (1, sI v1), (2, sI v2)] [] σ Q :=
  blk_ok (d := d) (y := y_MO_finds) (ft := ft_MO) (ct := ct_MO) (tab := tab_MO_finds) ⟨tk_MO_finds, ft_MO_ok, ct_MO_ok Y⟩ [] 21 0 _ _ σ h
set_option maxRecDepth 20000 in
theorem s_MO_findsThere_0 (Y : List kd) (d : Nat) (t : Nat) (v1 : Int32) (v2 : Int32) (σ : sS) (Q : Option sv → sS → Prop)
    (h : (vp_in v2 21 ∧ (((σ (t + 2) (Int32.toNatClampNeg v2)) = 1 → (vp_in v1 25 ∧ ((¬ ((up σ t 35 ((σ t 35) - 1)) (t + 7) (Int32.toNatClampNeg v1)) = 33 → Q none (up σ t 35 ((σ t 35) - 1))) ∧ (((up σ t 35 ((σ t 35) - 1)) (t + 7) (Int32.toNatClampNeg v1)) = 33 → (vp_in v2 21 ∧ CJ Y d y_MO_finds [sR t (.inl 6), sI ((up σ t 35 ((σ t 35) - 1)) (t + 6) (Int32.toNatClampNeg v2)), sI 4] (up σ t 35 ((σ t 35) - 1)) (rN fun σ1 => Q none σ1)))))) ∧ (¬ (σ (t + 2) (Int32.toNatClampNeg v2)) = 1 → (vp_in v1 25 ∧ CJ Y d y_MO_looksAs [sR t (.inl 6), sI (σ (t + 10) (Int32.toNatClampNeg v1))] σ (rN fun σ2 => Q none σ2)))))) :
    Jd Y (d + 1) y_MO_findsThere 0 [(0, sR t (.inl 6)), (1, sI v1), (2, sI v2)] [] σ Q :=
  blk_ok (d := (d + 1)) (y := y_MO_findsThere) (ft := ft_MO) (ct := ct_MO) (tab := tab_MO_findsThere) ⟨tk_MO_findsThere, ft_MO_ok, ct_MO_ok Y⟩ [] 35 0 _ _ σ h
set_option maxRecDepth 20000 in
theorem s_MO_looksAs_0 (Y : List kd) (d : Nat) (t : Nat) (v1 : Int32) (σ : sS) (Q : Option sv → sS → Prop)
    (h : (vp_in ((σ t 35) - 1) 400 ∧ (vp_in (((up σ (t + 22) (Int32.toNatClampNeg ((σ t 35) - 1)) v1) t 35) - 1) 400 ∧ Q none (up (up σ (t + 22) (Int32.toNatClampNeg ((σ t 35) - 1)) v1) (t + 24) (Int32.toNatClampNeg (((up σ (t + 22) (Int32.toNatClampNeg ((σ t 35) - 1)) v1) t 35) - 1)) 0)))) :
    Jd Y d y_MO_looksAs 0 [(0, sR t (.inl 6)), (1, sI v1)] [] σ Q :=
  blk_ok (d := d) (y := y_MO_looksAs) (ft := ft_MO) (ct := ct_MO) (tab := tab_MO_looksAs) ⟨tk_MO_looksAs, ft_MO_ok, ct_MO_ok Y⟩ [] 19 0 _ _ σ h
set_option maxRecDepth 20000 in
theorem s_MO_findsRecord_0 (Y : List kd) (d : Nat) (t : Nat) (v1 : Int32) (v2 : Int32) (σ : sS) (Q : Option sv → sS → Prop)
    (h : (vp_in ((σ t 35) - 1) 400 ∧ ((¬ (σ (t + 24) (Int32.toNatClampNeg ((σ t 35) - 1))) = 0 → Jd Y (d + 1) y_MO_findsRecord 48 [(0, sR t (.inl 6)), (1, sI v1), (2, sI v2), (3, sI (σ (t + 24) (Int32.toNatClampNeg ((σ t 35) - 1))))] [] σ Q) ∧ ((σ (t + 24) (Int32.toNatClampNeg ((σ t 35) - 1))) = 0 → (vp_in v2 21 ∧ (((σ (t + 2) (Int32.toNatClampNeg v2)) = 2 → Jd Y (d + 1) y_MO_findsRecord 48 [(0, sR t (.inl 6)), (1, sI v1), (2, sI v2), (3, sI (σ (t + 24) (Int32.toNatClampNeg ((σ t 35) - 1))))] [] σ Q) ∧ (¬ (σ (t + 2) (Int32.toNatClampNeg v2)) = 2 → (vp_in v2 21 ∧ CJ Y d y_MO_finds [sR t (.inl 6), sI ((up σ t 35 ((σ t 35) - 1)) (t + 6) (Int32.toNatClampNeg v2)), sI 5] (up σ t 35 ((σ t 35) - 1)) (rN fun σ1 => Q none σ1))))))))) :
    Jd Y (d + 1) y_MO_findsRecord 0 [(0, sR t (.inl 6)), (1, sI v1), (2, sI v2)] [] σ Q :=
  blk_ok (d := (d + 1)) (y := y_MO_findsRecord) (ft := ft_MO) (ct := ct_MO) (tab := tab_MO_findsRecord) ⟨tk_MO_findsRecord, ft_MO_ok, ct_MO_ok Y⟩ [(48, [0, 1, 2, 3]), (67, [0, 1, 2, 3])] 104 0 _ _ σ h
set_option maxRecDepth 20000 in
theorem s_MO_findsRecord_48 (Y : List kd) (d : Nat) (t : Nat) (v1 : Int32) (v2 : Int32) (v3 : Int32) (σ : sS) (Q : Option sv → sS → Prop)
    (h : ((¬ v3 = 0 → Jd Y (d + 1) y_MO_findsRecord 67 [(0, sR t (.inl 6)), (1, sI v1), (2, sI v2), (3, sI v3)] [] σ Q) ∧ (v3 = 0 → (vp_in ((σ t 35) - 1) 400 ∧ Jd Y (d + 1) y_MO_findsRecord 67 [(0, sR t (.inl 6)), (1, sI v1), (2, sI v2), (3, sI v3)] [] (up σ (t + 25) (Int32.toNatClampNeg ((σ t 35) - 1)) (σ t 33)) Q)))) :
    Jd Y (d + 1) y_MO_findsRecord 48 [(0, sR t (.inl 6)), (1, sI v1), (2, sI v2), (3, sI v3)] [] σ Q :=
  blk_ok (d := (d + 1)) (y := y_MO_findsRecord) (ft := ft_MO) (ct := ct_MO) (tab := tab_MO_findsRecord) ⟨tk_MO_findsRecord, ft_MO_ok, ct_MO_ok Y⟩ [(48, [0, 1, 2, 3]), (67, [0, 1, 2, 3])] 104 48 _ _ σ h
set_option maxRecDepth 20000 in
theorem s_MO_findsRecord_67 (Y : List kd) (d : Nat) (t : Nat) (v1 : Int32) (v2 : Int32) (v3 : Int32) (σ : sS) (Q : Option sv → sS → Prop)
    (h : CJ Y d y_MO_fieldAt [sR t (.inl 6), sI v1, sI v3] σ (rI fun r1 σ1 => ((¬ r1 < 0 → (vp_in ((σ1 t 35) - 1) 400 ∧ (vp_in ((σ1 t 35) - 1) 400 ∧ (vp_in r1 25 ∧ CJ Y d y_MO_fieldOf [sR t (.inl 6), sI v2, sI ((up σ1 (t + 24) (Int32.toNatClampNeg ((σ1 t 35) - 1)) ((σ1 (t + 24) (Int32.toNatClampNeg ((σ1 t 35) - 1))) + 1)) (t + 13) (Int32.toNatClampNeg r1))] (up σ1 (t + 24) (Int32.toNatClampNeg ((σ1 t 35) - 1)) ((σ1 (t + 24) (Int32.toNatClampNeg ((σ1 t 35) - 1))) + 1)) (rI fun r2 σ2 => ((r2 < 0 → (vp_in r1 25 ∧ ((¬ (σ2 (t + 14) (Int32.toNatClampNeg r1)) = 0 → Q none σ2) ∧ ((σ2 (t + 14) (Int32.toNatClampNeg r1)) = 0 → (vp_in v2 21 ∧ (vp_in r1 25 ∧ CJ Y d y_MO_finds [sR t (.inl 6), sI ((10 * (σ2 (t + 6) (Int32.toNatClampNeg v2))) + (σ2 (t + 13) (Int32.toNatClampNeg r1))), sI 6] σ2 (rN fun σ3 => Q none σ3))))))) ∧ (¬ r2 < 0 → (vp_in r1 25 ∧ CJ Y d y_MO_looks [sR t (.inl 6), sI (σ2 (t + 15) (Int32.toNatClampNeg r1)), sI r2] σ2 (rN fun σ4 => Q none σ4))))))))) ∧ (r1 < 0 → CJ Y d y_MO_endsRecord [sR t (.inl 6), sI v1, sI v2] σ1 (rN fun σ5 => Q none σ5))))) :
    Jd Y (d + 1) y_MO_findsRecord 67 [(0, sR t (.inl 6)), (1, sI v1), (2, sI v2), (3, sI v3)] [] σ Q :=
  blk_ok (d := (d + 1)) (y := y_MO_findsRecord) (ft := ft_MO) (ct := ct_MO) (tab := tab_MO_findsRecord) ⟨tk_MO_findsRecord, ft_MO_ok, ct_MO_ok Y⟩ [(48, [0, 1, 2, 3]), (67, [0, 1, 2, 3])] 104 67 _ _ σ h
set_option maxRecDepth 20000 in
theorem s_MO_fieldAt_0 (Y : List kd) (d : Nat) (t : Nat) (v1 : Int32) (v2 : Int32) (σ : sS) (Q : Option sv → sS → Prop)
    (h : Jd Y d y_MO_fieldAt 5 [(0, sR t (.inl 6)), (1, sI v1), (3, sI v2), (4, sI 0)] [] σ Q) :
    Jd Y d y_MO_fieldAt 0 [(0, sR t (.inl 6)), (1, sI v1), (2, sI v2)] [] σ Q :=
  blk_ok (d := d) (y := y_MO_fieldAt) (ft := ft_MO) (ct := ct_MO) (tab := tab_MO_fieldAt) ⟨tk_MO_fieldAt, ft_MO_ok, ct_MO_ok Y⟩ [(5, [0, 1, 3, 4]), (38, [0, 1, 3, 4])] 26 0 _ _ σ h
set_option maxRecDepth 20000 in
theorem s_MO_fieldAt_5 (Y : List kd) (d : Nat) (t : Nat) (v1 : Int32) (v3 : Int32) (v4 : Int32) (σ : sS) (Q : Option sv → sS → Prop)
    (h : ((¬ v4 < (σ t 21) → Q (some (sI (-9))) σ) ∧ (v4 < (σ t 21) → (vp_in v4 25 ∧ (((σ (t + 12) (Int32.toNatClampNeg v4)) = v1 → ((¬ v3 = 0 → Jd Y d y_MO_fieldAt 38 [(0, sR t (.inl 6)), (1, sI v1), (3, sI (v3 + (-1))), (4, sI v4)] [] σ Q) ∧ (v3 = 0 → Q (some (sI v4)) σ))) ∧ (¬ (σ (t + 12) (Int32.toNatClampNeg v4)) = v1 → Jd Y d y_MO_fieldAt 38 [(0, sR t (.inl 6)), (1, sI v1), (3, sI v3), (4, sI v4)] [] σ Q)))))) :
    Jd Y d y_MO_fieldAt 5 [(0, sR t (.inl 6)), (1, sI v1), (3, sI v3), (4, sI v4)] [] σ Q :=
  blk_ok (d := d) (y := y_MO_fieldAt) (ft := ft_MO) (ct := ct_MO) (tab := tab_MO_fieldAt) ⟨tk_MO_fieldAt, ft_MO_ok, ct_MO_ok Y⟩ [(5, [0, 1, 3, 4]), (38, [0, 1, 3, 4])] 26 5 _ _ σ h
set_option maxRecDepth 20000 in
theorem s_MO_fieldAt_38 (Y : List kd) (d : Nat) (t : Nat) (v1 : Int32) (v3 : Int32) (v4 : Int32) (σ : sS) (Q : Option sv → sS → Prop)
    (h : Jd Y d y_MO_fieldAt 5 [(0, sR t (.inl 6)), (1, sI v1), (3, sI v3), (4, sI (v4 + 1))] [] σ Q) :
    Jd Y d y_MO_fieldAt 38 [(0, sR t (.inl 6)), (1, sI v1), (3, sI v3), (4, sI v4)] [] σ Q :=
  blk_ok (d := d) (y := y_MO_fieldAt) (ft := ft_MO) (ct := ct_MO) (tab := tab_MO_fieldAt) ⟨tk_MO_fieldAt, ft_MO_ok, ct_MO_ok Y⟩ [(5, [0, 1, 3, 4]), (38, [0, 1, 3, 4])] 26 38 _ _ σ h
set_option maxRecDepth 20000 in
theorem s_MO_endsRecord_0 (Y : List kd) (d : Nat) (t : Nat) (v1 : Int32) (v2 : Int32) (σ : sS) (Q : Option sv → sS → Prop)
    (h : (vp_in ((σ t 35) - 1) 400 ∧ CJ Y d y_MO_findsMore [sR t (.inl 6), sI v1, sI v2] (up σ t 35 ((σ t 35) - 1)) (rN fun σ1 => Jd Y (d + 1) y_MO_endsRecord 31 [(0, sR t (.inl 6)), (1, sI v1), (2, sI v2), (3, sI (σ (t + 25) (Int32.toNatClampNeg ((σ t 35) - 1)))), (4, sI 0)] [] σ1 Q))) :
    Jd Y (d + 1) y_MO_endsRecord 0 [(0, sR t (.inl 6)), (1, sI v1), (2, sI v2)] [] σ Q :=
  blk_ok (d := (d + 1)) (y := y_MO_endsRecord) (ft := ft_MO) (ct := ct_MO) (tab := tab_MO_endsRecord) ⟨tk_MO_endsRecord, ft_MO_ok, ct_MO_ok Y⟩ [(31, [0, 1, 2, 3, 4]), (59, [0, 1, 2, 3, 4])] 40 0 _ _ σ h
set_option maxRecDepth 20000 in
theorem s_MO_endsRecord_31 (Y : List kd) (d : Nat) (t : Nat) (v1 : Int32) (v2 : Int32) (v3 : Int32) (v4 : Int32) (σ : sS) (Q : Option sv → sS → Prop)
    (h : ((¬ v4 < (σ t 22) → Q none σ) ∧ (v4 < (σ t 22) → (vp_in v4 33 ∧ ((¬ (σ (t + 16) (Int32.toNatClampNeg v4)) = v1 → Jd Y (d + 1) y_MO_endsRecord 59 [(0, sR t (.inl 6)), (1, sI v1), (2, sI v2), (3, sI v3), (4, sI v4)] [] σ Q) ∧ ((σ (t + 16) (Int32.toNatClampNeg v4)) = v1 → CJ Y d y_MO_findsWaiter [sR t (.inl 6), sI v4, sI v2, sI v3] σ (rN fun σ1 => Jd Y (d + 1) y_MO_endsRecord 59 [(0, sR t (.inl 6)), (1, sI v1), (2, sI v2), (3, sI v3), (4, sI v4)] [] σ1 Q))))))) :
    Jd Y (d + 1) y_MO_endsRecord 31 [(0, sR t (.inl 6)), (1, sI v1), (2, sI v2), (3, sI v3), (4, sI v4)] [] σ Q :=
  blk_ok (d := (d + 1)) (y := y_MO_endsRecord) (ft := ft_MO) (ct := ct_MO) (tab := tab_MO_endsRecord) ⟨tk_MO_endsRecord, ft_MO_ok, ct_MO_ok Y⟩ [(31, [0, 1, 2, 3, 4]), (59, [0, 1, 2, 3, 4])] 40 31 _ _ σ h
set_option maxRecDepth 20000 in
theorem s_MO_endsRecord_59 (Y : List kd) (d : Nat) (t : Nat) (v1 : Int32) (v2 : Int32) (v3 : Int32) (v4 : Int32) (σ : sS) (Q : Option sv → sS → Prop)
    (h : Jd Y (d + 1) y_MO_endsRecord 31 [(0, sR t (.inl 6)), (1, sI v1), (2, sI v2), (3, sI v3), (4, sI (v4 + 1))] [] σ Q) :
    Jd Y (d + 1) y_MO_endsRecord 59 [(0, sR t (.inl 6)), (1, sI v1), (2, sI v2), (3, sI v3), (4, sI v4)] [] σ Q :=
  blk_ok (d := (d + 1)) (y := y_MO_endsRecord) (ft := ft_MO) (ct := ct_MO) (tab := tab_MO_endsRecord) ⟨tk_MO_endsRecord, ft_MO_ok, ct_MO_ok Y⟩ [(31, [0, 1, 2, 3, 4]), (59, [0, 1, 2, 3, 4])] 40 59 _ _ σ h
set_option maxRecDepth 20000 in
theorem s_MO_findsMore_0 (Y : List kd) (d : Nat) (t : Nat) (v1 : Int32) (v2 : Int32) (σ : sS) (Q : Option sv → sS → Prop)
    (h : Jd Y (d + 1) y_MO_findsMore 2 [(0, sR t (.inl 6)), (1, sI v1), (2, sI v2), (3, sI 0)] [] σ Q) :
    Jd Y (d + 1) y_MO_findsMore 0 [(0, sR t (.inl 6)), (1, sI v1), (2, sI v2)] [] σ Q :=
  blk_ok (d := (d + 1)) (y := y_MO_findsMore) (ft := ft_MO) (ct := ct_MO) (tab := tab_MO_findsMore) ⟨tk_MO_findsMore, ft_MO_ok, ct_MO_ok Y⟩ [(2, [0, 1, 2, 3]), (48, [0, 1, 2, 3])] 33 0 _ _ σ h
set_option maxRecDepth 20000 in
theorem s_MO_findsMore_2 (Y : List kd) (d : Nat) (t : Nat) (v1 : Int32) (v2 : Int32) (v3 : Int32) (σ : sS) (Q : Option sv → sS → Prop)
    (h : (vp_in v2 21 ∧ ((¬ v3 < (σ (t + 3) (Int32.toNatClampNeg v2)) → Q none σ) ∧ (v3 < (σ (t + 3) (Int32.toNatClampNeg v2)) → CJ Y d y_MO_childOf [sR t (.inl 6), sI v2, sI v3] σ (rI fun r1 σ1 => (vp_in r1 21 ∧ CJ Y d y_MO_isToldField [sR t (.inl 6), sI v1, sI (σ1 (t + 4) (Int32.toNatClampNeg r1))] σ1 (rI fun r2 σ2 => ((¬ r2 = 0 → Jd Y (d + 1) y_MO_findsMore 48 [(0, sR t (.inl 6)), (1, sI v1), (2, sI v2), (3, sI v3)] [] σ2 Q) ∧ (r2 = 0 → (vp_in r1 21 ∧ CJ Y d y_MO_finds [sR t (.inl 6), sI (σ2 (t + 6) (Int32.toNatClampNeg r1)), sI 7] σ2 (rN fun σ3 => Jd Y (d + 1) y_MO_findsMore 48 [(0, sR t (.inl 6)), (1, sI v1), (2, sI v2), (3, sI v3)] [] σ3 Q))))))))))) :
    Jd Y (d + 1) y_MO_findsMore 2 [(0, sR t (.inl 6)), (1, sI v1), (2, sI v2), (3, sI v3)] [] σ Q :=
  blk_ok (d := (d + 1)) (y := y_MO_findsMore) (ft := ft_MO) (ct := ct_MO) (tab := tab_MO_findsMore) ⟨tk_MO_findsMore, ft_MO_ok, ct_MO_ok Y⟩ [(2, [0, 1, 2, 3]), (48, [0, 1, 2, 3])] 33 2 _ _ σ h
set_option maxRecDepth 20000 in
theorem s_MO_findsMore_48 (Y : List kd) (d : Nat) (t : Nat) (v1 : Int32) (v2 : Int32) (v3 : Int32) (σ : sS) (Q : Option sv → sS → Prop)
    (h : Jd Y (d + 1) y_MO_findsMore 2 [(0, sR t (.inl 6)), (1, sI v1), (2, sI v2), (3, sI (v3 + 1))] [] σ Q) :
    Jd Y (d + 1) y_MO_findsMore 48 [(0, sR t (.inl 6)), (1, sI v1), (2, sI v2), (3, sI v3)] [] σ Q :=
  blk_ok (d := (d + 1)) (y := y_MO_findsMore) (ft := ft_MO) (ct := ct_MO) (tab := tab_MO_findsMore) ⟨tk_MO_findsMore, ft_MO_ok, ct_MO_ok Y⟩ [(2, [0, 1, 2, 3]), (48, [0, 1, 2, 3])] 33 48 _ _ σ h
set_option maxRecDepth 20000 in
theorem s_MO_childOf_0 (Y : List kd) (d : Nat) (t : Nat) (v1 : Int32) (v2 : Int32) (σ : sS) (Q : Option sv → sS → Prop)
    (h : Jd Y d y_MO_childOf 7 [(0, sR t (.inl 6)), (2, sI v2), (3, sI (v1 + 1)), (4, sI 0)] [] σ Q) :
    Jd Y d y_MO_childOf 0 [(0, sR t (.inl 6)), (1, sI v1), (2, sI v2)] [] σ Q :=
  blk_ok (d := d) (y := y_MO_childOf) (ft := ft_MO) (ct := ct_MO) (tab := tab_MO_childOf) ⟨tk_MO_childOf, ft_MO_ok, ct_MO_ok Y⟩ [(7, [0, 2, 3, 4])] 22 0 _ _ σ h
set_option maxRecDepth 20000 in
theorem s_MO_childOf_7 (Y : List kd) (d : Nat) (t : Nat) (v2 : Int32) (v3 : Int32) (v4 : Int32) (σ : sS) (Q : Option sv → sS → Prop)
    (h : ((¬ v4 < v2 → Q (some (sI v3)) σ) ∧ (v4 < v2 → (vp_in v3 21 ∧ Jd Y d y_MO_childOf 7 [(0, sR t (.inl 6)), (2, sI v2), (3, sI (v3 + (σ (t + 5) (Int32.toNatClampNeg v3)))), (4, sI (v4 + 1))] [] σ Q)))) :
    Jd Y d y_MO_childOf 7 [(0, sR t (.inl 6)), (2, sI v2), (3, sI v3), (4, sI v4)] [] σ Q :=
  blk_ok (d := d) (y := y_MO_childOf) (ft := ft_MO) (ct := ct_MO) (tab := tab_MO_childOf) ⟨tk_MO_childOf, ft_MO_ok, ct_MO_ok Y⟩ [(7, [0, 2, 3, 4])] 22 7 _ _ σ h
set_option maxRecDepth 20000 in
theorem s_MO_isToldField_0 (Y : List kd) (d : Nat) (t : Nat) (v1 : Int32) (v2 : Int32) (σ : sS) (Q : Option sv → sS → Prop)
    (h : Jd Y d y_MO_isToldField 2 [(0, sR t (.inl 6)), (1, sI v1), (2, sI v2), (3, sI 0)] [] σ Q) :
    Jd Y d y_MO_isToldField 0 [(0, sR t (.inl 6)), (1, sI v1), (2, sI v2)] [] σ Q :=
  blk_ok (d := d) (y := y_MO_isToldField) (ft := ft_MO) (ct := ct_MO) (tab := tab_MO_isToldField) ⟨tk_MO_isToldField, ft_MO_ok, ct_MO_ok Y⟩ [(2, [0, 1, 2, 3]), (32, [0, 1, 2, 3])] 26 0 _ _ σ h
set_option maxRecDepth 20000 in
theorem s_MO_isToldField_2 (Y : List kd) (d : Nat) (t : Nat) (v1 : Int32) (v2 : Int32) (v3 : Int32) (σ : sS) (Q : Option sv → sS → Prop)
    (h : ((¬ v3 < (σ t 21) → (((0 : Int32) = 0 ∨ (0 : Int32) = 1) ∧ Q (some (sI 0)) σ)) ∧ (v3 < (σ t 21) → (vp_in v3 25 ∧ ((¬ (σ (t + 12) (Int32.toNatClampNeg v3)) = v1 → Jd Y d y_MO_isToldField 32 [(0, sR t (.inl 6)), (1, sI v1), (2, sI v2), (3, sI v3)] [] σ Q) ∧ ((σ (t + 12) (Int32.toNatClampNeg v3)) = v1 → (vp_in v3 25 ∧ ((¬ (σ (t + 13) (Int32.toNatClampNeg v3)) = v2 → Jd Y d y_MO_isToldField 32 [(0, sR t (.inl 6)), (1, sI v1), (2, sI v2), (3, sI v3)] [] σ Q) ∧ ((σ (t + 13) (Int32.toNatClampNeg v3)) = v2 → (((1 : Int32) = 0 ∨ (1 : Int32) = 1) ∧ Q (some (sI 1)) σ)))))))))) :
    Jd Y d y_MO_isToldField 2 [(0, sR t (.inl 6)), (1, sI v1), (2, sI v2), (3, sI v3)] [] σ Q :=
  blk_ok (d := d) (y := y_MO_isToldField) (ft := ft_MO) (ct := ct_MO) (tab := tab_MO_isToldField) ⟨tk_MO_isToldField, ft_MO_ok, ct_MO_ok Y⟩ [(2, [0, 1, 2, 3]), (32, [0, 1, 2, 3])] 26 2 _ _ σ h
set_option maxRecDepth 20000 in
theorem s_MO_isToldField_32 (Y : List kd) (d : Nat) (t : Nat) (v1 : Int32) (v2 : Int32) (v3 : Int32) (σ : sS) (Q : Option sv → sS → Prop)
    (h : Jd Y d y_MO_isToldField 2 [(0, sR t (.inl 6)), (1, sI v1), (2, sI v2), (3, sI (v3 + 1))] [] σ Q) :
    Jd Y d y_MO_isToldField 32 [(0, sR t (.inl 6)), (1, sI v1), (2, sI v2), (3, sI v3)] [] σ Q :=
  blk_ok (d := d) (y := y_MO_isToldField) (ft := ft_MO) (ct := ct_MO) (tab := tab_MO_isToldField) ⟨tk_MO_isToldField, ft_MO_ok, ct_MO_ok Y⟩ [(2, [0, 1, 2, 3]), (32, [0, 1, 2, 3])] 26 32 _ _ σ h
set_option maxRecDepth 20000 in
theorem s_MO_findsWaiter_0 (Y : List kd) (d : Nat) (t : Nat) (v1 : Int32) (v2 : Int32) (v3 : Int32) (σ : sS) (Q : Option sv → sS → Prop)
    (h : (vp_in v1 33 ∧ CJ Y d y_MO_fieldOf [sR t (.inl 6), sI v2, sI (σ (t + 18) (Int32.toNatClampNeg v1))] σ (rI fun r1 σ1 => (vp_in v1 33 ∧ CJ Y d y_MO_fieldOf [sR t (.inl 6), sI v2, sI (σ1 (t + 19) (Int32.toNatClampNeg v1))] σ1 (rI fun r2 σ2 => ((r1 < 0 → Jd Y (d + 1) y_MO_findsWaiter 66 [(0, sR t (.inl 6))] [] σ2 Q) ∧ (¬ r1 < 0 → ((r2 < 0 → Jd Y (d + 1) y_MO_findsWaiter 66 [(0, sR t (.inl 6))] [] σ2 Q) ∧ (¬ r2 < 0 → (vp_in r1 21 ∧ CJ Y d y_MO_isAnyBelow [sR t (.inl 6), sI v3, sI (σ2 (t + 6) (Int32.toNatClampNeg r1))] σ2 (rI fun r3 σ3 => ((¬ r3 = 0 → Jd Y (d + 1) y_MO_findsWaiter 66 [(0, sR t (.inl 6))] [] σ3 Q) ∧ (r3 = 0 → (vp_in r2 21 ∧ CJ Y d y_MO_isAnyBelow [sR t (.inl 6), sI v3, sI (σ3 (t + 6) (Int32.toNatClampNeg r2))] σ3 (rI fun r4 σ4 => ((r4 = 0 → (vp_in v1 33 ∧ ((¬ (σ4 (t + 17) (Int32.toNatClampNeg v1)) = 60 → Jd Y (d + 1) y_MO_findsWaiter 117 [(0, sR t (.inl 6)), (1, sI v1), (4, sI r1), (5, sI r2)] [] σ4 Q) ∧ ((σ4 (t + 17) (Int32.toNatClampNeg v1)) = 60 → CJ Y d y_MO_isLess [sR t (.inl 6), sI r1, sI r2] σ4 (rI fun r5 σ5 => ((¬ r5 = 0 → Jd Y (d + 1) y_MO_findsWaiter 117 [(0, sR t (.inl 6)), (1, sI v1), (4, sI r1), (5, sI r2)] [] σ5 Q) ∧ (r5 = 0 → (vp_in r2 21 ∧ CJ Y d y_MO_finds [sR t (.inl 6), sI (σ5 (t + 6) (Int32.toNatClampNeg r2)), sI 8] σ5 (rN fun σ6 => Q none σ6))))))))) ∧ (¬ r4 = 0 → Jd Y (d + 1) y_MO_findsWaiter 66 [(0, sR t (.inl 6))] [] σ4 Q))))))))))))))))) :
    Jd Y (d + 1) y_MO_findsWaiter 0 [(0, sR t (.inl 6)), (1, sI v1), (2, sI v2), (3, sI v3)] [] σ Q :=
  blk_ok (d := (d + 1)) (y := y_MO_findsWaiter) (ft := ft_MO) (ct := ct_MO) (tab := tab_MO_findsWaiter) ⟨tk_MO_findsWaiter, ft_MO_ok, ct_MO_ok Y⟩ [(66, [0]), (117, [0, 1, 4, 5])] 83 0 _ _ σ h
set_option maxRecDepth 20000 in
theorem s_MO_findsWaiter_66 (Y : List kd) (d : Nat) (t : Nat) (σ : sS) (Q : Option sv → sS → Prop)
    (h : Q none (up σ t 34 ((σ t 34) + 1))) :
    Jd Y (d + 1) y_MO_findsWaiter 66 [(0, sR t (.inl 6))] [] σ Q :=
  blk_ok (d := (d + 1)) (y := y_MO_findsWaiter) (ft := ft_MO) (ct := ct_MO) (tab := tab_MO_findsWaiter) ⟨tk_MO_findsWaiter, ft_MO_ok, ct_MO_ok Y⟩ [(66, [0]), (117, [0, 1, 4, 5])] 83 66 _ _ σ h
set_option maxRecDepth 20000 in
theorem s_MO_findsWaiter_117 (Y : List kd) (d : Nat) (t : Nat) (v1 : Int32) (v4 : Int32) (v5 : Int32) (σ : sS) (Q : Option sv → sS → Prop)
    (h : (vp_in v1 33 ∧ ((¬ (σ (t + 17) (Int32.toNatClampNeg v1)) = 61 → Q none σ) ∧ ((σ (t + 17) (Int32.toNatClampNeg v1)) = 61 → CJ Y d y_MO_areSame [sR t (.inl 6), sI v4, sI v5] σ (rI fun r1 σ1 => ((¬ r1 = 0 → Q none σ1) ∧ (r1 = 0 → (vp_in v5 21 ∧ CJ Y d y_MO_finds [sR t (.inl 6), sI (σ1 (t + 6) (Int32.toNatClampNeg v5)), sI 9] σ1 (rN fun σ2 => Q none σ2))))))))) :
    Jd Y (d + 1) y_MO_findsWaiter 117 [(0, sR t (.inl 6)), (1, sI v1), (4, sI v4), (5, sI v5)] [] σ Q :=
  blk_ok (d := (d + 1)) (y := y_MO_findsWaiter) (ft := ft_MO) (ct := ct_MO) (tab := tab_MO_findsWaiter) ⟨tk_MO_findsWaiter, ft_MO_ok, ct_MO_ok Y⟩ [(66, [0]), (117, [0, 1, 4, 5])] 83 117 _ _ σ h
set_option maxRecDepth 20000 in
theorem s_MO_fieldOf_0 (Y : List kd) (d : Nat) (t : Nat) (v1 : Int32) (v2 : Int32) (σ : sS) (Q : Option sv → sS → Prop)
    (h : Jd Y (d + 1) y_MO_fieldOf 2 [(0, sR t (.inl 6)), (1, sI v1), (2, sI v2), (3, sI 0)] [] σ Q) :
    Jd Y (d + 1) y_MO_fieldOf 0 [(0, sR t (.inl 6)), (1, sI v1), (2, sI v2)] [] σ Q :=
  blk_ok (d := (d + 1)) (y := y_MO_fieldOf) (ft := ft_MO) (ct := ct_MO) (tab := tab_MO_fieldOf) ⟨tk_MO_fieldOf, ft_MO_ok, ct_MO_ok Y⟩ [(2, [0, 1, 2, 3])] 28 0 _ _ σ h
set_option maxRecDepth 20000 in
theorem s_MO_fieldOf_2 (Y : List kd) (d : Nat) (t : Nat) (v1 : Int32) (v2 : Int32) (v3 : Int32) (σ : sS) (Q : Option sv → sS → Prop)
    (h : (vp_in v1 21 ∧ ((¬ v3 < (σ (t + 3) (Int32.toNatClampNeg v1)) → Q (some (sI (-9))) σ) ∧ (v3 < (σ (t + 3) (Int32.toNatClampNeg v1)) → CJ Y d y_MO_childOf [sR t (.inl 6), sI v1, sI v3] σ (rI fun r1 σ1 => (vp_in r1 21 ∧ ((¬ (σ1 (t + 4) (Int32.toNatClampNeg r1)) = v2 → Jd Y (d + 1) y_MO_fieldOf 2 [(0, sR t (.inl 6)), (1, sI v1), (2, sI v2), (3, sI (v3 + 1))] [] σ1 Q) ∧ ((σ1 (t + 4) (Int32.toNatClampNeg r1)) = v2 → CJ Y d y_MO_childOf [sR t (.inl 6), sI v1, sI v3] σ1 (rI fun r2 σ2 => Q (some (sI r2)) σ2))))))))) :
    Jd Y (d + 1) y_MO_fieldOf 2 [(0, sR t (.inl 6)), (1, sI v1), (2, sI v2), (3, sI v3)] [] σ Q :=
  blk_ok (d := (d + 1)) (y := y_MO_fieldOf) (ft := ft_MO) (ct := ct_MO) (tab := tab_MO_fieldOf) ⟨tk_MO_fieldOf, ft_MO_ok, ct_MO_ok Y⟩ [(2, [0, 1, 2, 3])] 28 2 _ _ σ h
set_option maxRecDepth 20000 in
theorem s_MO_isAnyBelow_0 (Y : List kd) (d : Nat) (t : Nat) (v1 : Int32) (v2 : Int32) (σ : sS) (Q : Option sv → sS → Prop)
    (h : Jd Y (d + 1) y_MO_isAnyBelow 2 [(0, sR t (.inl 6)), (2, sI v2), (3, sI v1)] [] σ Q) :
    Jd Y (d + 1) y_MO_isAnyBelow 0 [(0, sR t (.inl 6)), (1, sI v1), (2, sI v2)] [] σ Q :=
  blk_ok (d := (d + 1)) (y := y_MO_isAnyBelow) (ft := ft_MO) (ct := ct_MO) (tab := tab_MO_isAnyBelow) ⟨tk_MO_isAnyBelow, ft_MO_ok, ct_MO_ok Y⟩ [(2, [0, 2, 3])] 21 0 _ _ σ h
set_option maxRecDepth 20000 in
theorem s_MO_isAnyBelow_2 (Y : List kd) (d : Nat) (t : Nat) (v2 : Int32) (v3 : Int32) (σ : sS) (Q : Option sv → sS → Prop)
    (h : ((¬ v3 < (σ t 33) → (((0 : Int32) = 0 ∨ (0 : Int32) = 1) ∧ Q (some (sI 0)) σ)) ∧ (v3 < (σ t 33) → (vp_in v3 16384 ∧ CJ Y d y_MO_isBelow [sI (σ (t + 20) (Int32.toNatClampNeg v3)), sI v2] σ (rI fun r1 σ1 => ((r1 = 0 → Jd Y (d + 1) y_MO_isAnyBelow 2 [(0, sR t (.inl 6)), (2, sI v2), (3, sI (v3 + 1))] [] σ1 Q) ∧ (¬ r1 = 0 → (((1 : Int32) = 0 ∨ (1 : Int32) = 1) ∧ Q (some (sI 1)) σ1)))))))) :
    Jd Y (d + 1) y_MO_isAnyBelow 2 [(0, sR t (.inl 6)), (2, sI v2), (3, sI v3)] [] σ Q :=
  blk_ok (d := (d + 1)) (y := y_MO_isAnyBelow) (ft := ft_MO) (ct := ct_MO) (tab := tab_MO_isAnyBelow) ⟨tk_MO_isAnyBelow, ft_MO_ok, ct_MO_ok Y⟩ [(2, [0, 2, 3])] 21 2 _ _ σ h
set_option maxRecDepth 20000 in
theorem s_MO_isBelow_0 (Y : List kd) (d : Nat) (v0 : Int32) (v1 : Int32) (σ : sS) (Q : Option sv → sS → Prop)
    (h : Jd Y d y_MO_isBelow 2 [(1, sI v1), (2, sI v0)] [] σ Q) :
    Jd Y d y_MO_isBelow 0 [(0, sI v0), (1, sI v1)] [] σ Q :=
  blk_ok (d := d) (y := y_MO_isBelow) (ft := ft_MO) (ct := ct_MO) (tab := tab_MO_isBelow) ⟨tk_MO_isBelow, ft_MO_ok, ct_MO_ok Y⟩ [(2, [1, 2])] 19 0 _ _ σ h
set_option maxRecDepth 20000 in
theorem s_MO_isBelow_2 (Y : List kd) (d : Nat) (v1 : Int32) (v2 : Int32) (σ : sS) (Q : Option sv → sS → Prop)
    (h : ((¬ v1 < v2 → ((¬ v2 = v1 → (((0 : Int32) = 0 ∨ (0 : Int32) = 1) ∧ Q (some (sI 0)) σ)) ∧ (v2 = v1 → (((1 : Int32) = 0 ∨ (1 : Int32) = 1) ∧ Q (some (sI 1)) σ)))) ∧ (v1 < v2 → (¬ (10 : Int32) = 0 ∧ Jd Y d y_MO_isBelow 2 [(1, sI v1), (2, sI (v2 / 10))] [] σ Q)))) :
    Jd Y d y_MO_isBelow 2 [(1, sI v1), (2, sI v2)] [] σ Q :=
  blk_ok (d := d) (y := y_MO_isBelow) (ft := ft_MO) (ct := ct_MO) (tab := tab_MO_isBelow) ⟨tk_MO_isBelow, ft_MO_ok, ct_MO_ok Y⟩ [(2, [1, 2])] 19 2 _ _ σ h
set_option maxRecDepth 20000 in
theorem s_MO_isLess_0 (Y : List kd) (d : Nat) (t : Nat) (v1 : Int32) (v2 : Int32) (σ : sS) (Q : Option sv → sS → Prop)
    (h : (vp_in v1 21 ∧ ((¬ (σ (t + 2) (Int32.toNatClampNeg v1)) = 0 → Jd Y d y_MO_isLess 39 [(0, sR t (.inl 6)), (1, sI v1), (2, sI v2)] [] σ Q) ∧ ((σ (t + 2) (Int32.toNatClampNeg v1)) = 0 → (vp_in v2 21 ∧ ((¬ (σ (t + 2) (Int32.toNatClampNeg v2)) = 0 → Jd Y d y_MO_isLess 39 [(0, sR t (.inl 6)), (1, sI v1), (2, sI v2)] [] σ Q) ∧ ((σ (t + 2) (Int32.toNatClampNeg v2)) = 0 → (vp_in v1 21 ∧ (vp_in v2 21 ∧ ((¬ (σ (t + 3) (Int32.toNatClampNeg v1)) < (σ (t + 3) (Int32.toNatClampNeg v2)) → (((0 : Int32) = 0 ∨ (0 : Int32) = 1) ∧ Q (some (sI 0)) σ)) ∧ ((σ (t + 3) (Int32.toNatClampNeg v1)) < (σ (t + 3) (Int32.toNatClampNeg v2)) → (((1 : Int32) = 0 ∨ (1 : Int32) = 1) ∧ Q (some (sI 1)) σ)))))))))))) :
    Jd Y d y_MO_isLess 0 [(0, sR t (.inl 6)), (1, sI v1), (2, sI v2)] [] σ Q :=
  blk_ok (d := d) (y := y_MO_isLess) (ft := ft_MO) (ct := ct_MO) (tab := tab_MO_isLess) ⟨tk_MO_isLess, ft_MO_ok, ct_MO_ok Y⟩ [(39, [0, 1, 2])] 38 0 _ _ σ h
set_option maxRecDepth 20000 in
theorem s_MO_isLess_39 (Y : List kd) (d : Nat) (t : Nat) (v1 : Int32) (v2 : Int32) (σ : sS) (Q : Option sv → sS → Prop)
    (h : (vp_in v1 21 ∧ (vp_in v2 21 ∧ ((¬ (σ (t + 5) (Int32.toNatClampNeg v1)) < (σ (t + 5) (Int32.toNatClampNeg v2)) → (((0 : Int32) = 0 ∨ (0 : Int32) = 1) ∧ Q (some (sI 0)) σ)) ∧ ((σ (t + 5) (Int32.toNatClampNeg v1)) < (σ (t + 5) (Int32.toNatClampNeg v2)) → (((1 : Int32) = 0 ∨ (1 : Int32) = 1) ∧ Q (some (sI 1)) σ)))))) :
    Jd Y d y_MO_isLess 39 [(0, sR t (.inl 6)), (1, sI v1), (2, sI v2)] [] σ Q :=
  blk_ok (d := d) (y := y_MO_isLess) (ft := ft_MO) (ct := ct_MO) (tab := tab_MO_isLess) ⟨tk_MO_isLess, ft_MO_ok, ct_MO_ok Y⟩ [(39, [0, 1, 2])] 38 39 _ _ σ h
set_option maxRecDepth 20000 in
theorem s_MO_areSame_0 (Y : List kd) (d : Nat) (t : Nat) (v1 : Int32) (v2 : Int32) (σ : sS) (Q : Option sv → sS → Prop)
    (h : (vp_in v1 21 ∧ (vp_in v2 21 ∧ (((σ (t + 5) (Int32.toNatClampNeg v1)) = (σ (t + 5) (Int32.toNatClampNeg v2)) → Jd Y (d + 1) y_MO_areSame 19 [(0, sR t (.inl 6)), (1, sI v1), (2, sI v2), (3, sI v1)] [] σ Q) ∧ (¬ (σ (t + 5) (Int32.toNatClampNeg v1)) = (σ (t + 5) (Int32.toNatClampNeg v2)) → (((0 : Int32) = 0 ∨ (0 : Int32) = 1) ∧ Q (some (sI 0)) σ)))))) :
    Jd Y (d + 1) y_MO_areSame 0 [(0, sR t (.inl 6)), (1, sI v1), (2, sI v2)] [] σ Q :=
  blk_ok (d := (d + 1)) (y := y_MO_areSame) (ft := ft_MO) (ct := ct_MO) (tab := tab_MO_areSame) ⟨tk_MO_areSame, ft_MO_ok, ct_MO_ok Y⟩ [(19, [0, 1, 2, 3])] 35 0 _ _ σ h
set_option maxRecDepth 20000 in
theorem s_MO_areSame_19 (Y : List kd) (d : Nat) (t : Nat) (v1 : Int32) (v2 : Int32) (v3 : Int32) (σ : sS) (Q : Option sv → sS → Prop)
    (h : (vp_in v1 21 ∧ ((¬ v3 < (v1 + (σ (t + 5) (Int32.toNatClampNeg v1))) → (((1 : Int32) = 0 ∨ (1 : Int32) = 1) ∧ Q (some (sI 1)) σ)) ∧ (v3 < (v1 + (σ (t + 5) (Int32.toNatClampNeg v1))) → CJ Y d y_MO_hasAlike [sR t (.inl 6), sI v3, sI v1, sI v2] σ (rI fun r1 σ1 => ((¬ r1 = 0 → Jd Y (d + 1) y_MO_areSame 19 [(0, sR t (.inl 6)), (1, sI v1), (2, sI v2), (3, sI (v3 + 1))] [] σ1 Q) ∧ (r1 = 0 → (((0 : Int32) = 0 ∨ (0 : Int32) = 1) ∧ Q (some (sI 0)) σ1)))))))) :
    Jd Y (d + 1) y_MO_areSame 19 [(0, sR t (.inl 6)), (1, sI v1), (2, sI v2), (3, sI v3)] [] σ Q :=
  blk_ok (d := (d + 1)) (y := y_MO_areSame) (ft := ft_MO) (ct := ct_MO) (tab := tab_MO_areSame) ⟨tk_MO_areSame, ft_MO_ok, ct_MO_ok Y⟩ [(19, [0, 1, 2, 3])] 35 19 _ _ σ h
set_option maxRecDepth 20000 in
theorem s_MO_hasAlike_0 (Y : List kd) (d : Nat) (t : Nat) (v1 : Int32) (v2 : Int32) (v3 : Int32) (σ : sS) (Q : Option sv → sS → Prop)
    (h : (vp_in v1 21 ∧ (vp_in v1 21 ∧ (vp_in v2 21 ∧ CJ Y d y_MO_unitFor [sI (σ (t + 6) (Int32.toNatClampNeg v1)), sI (σ (t + 6) (Int32.toNatClampNeg v2))] σ (rI fun r1 σ1 => (¬ r1 = 0 ∧ Jd Y (d + 1) y_MO_hasAlike 27 [(0, sR t (.inl 6)), (1, sI v1), (3, sI v3), (4, sI ((σ (t + 6) (Int32.toNatClampNeg v1)) - (σ (t + 6) (Int32.toNatClampNeg v1)) / r1 * r1)), (5, sI v3)] [] σ1 Q)))))) :
    Jd Y (d + 1) y_MO_hasAlike 0 [(0, sR t (.inl 6)), (1, sI v1), (2, sI v2), (3, sI v3)] [] σ Q :=
  blk_ok (d := (d + 1)) (y := y_MO_hasAlike) (ft := ft_MO) (ct := ct_MO) (tab := tab_MO_hasAlike) ⟨tk_MO_hasAlike, ft_MO_ok, ct_MO_ok Y⟩ [(27, [0, 1, 3, 4, 5]), (103, [0, 1, 3, 4, 5])] 67 0 _ _ σ h
set_option maxRecDepth 20000 in
theorem s_MO_hasAlike_27 (Y : List kd) (d : Nat) (t : Nat) (v1 : Int32) (v3 : Int32) (v4 : Int32) (v5 : Int32) (σ : sS) (Q : Option sv → sS → Prop)
    (h : (vp_in v3 21 ∧ ((¬ v5 < (v3 + (σ (t + 5) (Int32.toNatClampNeg v3))) → (((0 : Int32) = 0 ∨ (0 : Int32) = 1) ∧ Q (some (sI 0)) σ)) ∧ (v5 < (v3 + (σ (t + 5) (Int32.toNatClampNeg v3))) → (vp_in v5 21 ∧ (vp_in v5 21 ∧ (vp_in v3 21 ∧ CJ Y d y_MO_unitFor [sI (σ (t + 6) (Int32.toNatClampNeg v5)), sI (σ (t + 6) (Int32.toNatClampNeg v3))] σ (rI fun r1 σ1 => (¬ r1 = 0 ∧ ((¬ ((σ (t + 6) (Int32.toNatClampNeg v5)) - (σ (t + 6) (Int32.toNatClampNeg v5)) / r1 * r1) = v4 → Jd Y (d + 1) y_MO_hasAlike 103 [(0, sR t (.inl 6)), (1, sI v1), (3, sI v3), (4, sI v4), (5, sI v5)] [] σ1 Q) ∧ (((σ (t + 6) (Int32.toNatClampNeg v5)) - (σ (t + 6) (Int32.toNatClampNeg v5)) / r1 * r1) = v4 → (vp_in v5 21 ∧ (vp_in v1 21 ∧ ((¬ (σ1 (t + 2) (Int32.toNatClampNeg v5)) = (σ1 (t + 2) (Int32.toNatClampNeg v1)) → Jd Y (d + 1) y_MO_hasAlike 103 [(0, sR t (.inl 6)), (1, sI v1), (3, sI v3), (4, sI v4), (5, sI v5)] [] σ1 Q) ∧ ((σ1 (t + 2) (Int32.toNatClampNeg v5)) = (σ1 (t + 2) (Int32.toNatClampNeg v1)) → (vp_in v5 21 ∧ (vp_in v1 21 ∧ ((¬ (σ1 (t + 3) (Int32.toNatClampNeg v5)) = (σ1 (t + 3) (Int32.toNatClampNeg v1)) → Jd Y (d + 1) y_MO_hasAlike 103 [(0, sR t (.inl 6)), (1, sI v1), (3, sI v3), (4, sI v4), (5, sI v5)] [] σ1 Q) ∧ ((σ1 (t + 3) (Int32.toNatClampNeg v5)) = (σ1 (t + 3) (Int32.toNatClampNeg v1)) → (((1 : Int32) = 0 ∨ (1 : Int32) = 1) ∧ Q (some (sI 1)) σ1)))))))))))))))))))) :
    Jd Y (d + 1) y_MO_hasAlike 27 [(0, sR t (.inl 6)), (1, sI v1), (3, sI v3), (4, sI v4), (5, sI v5)] [] σ Q :=
  blk_ok (d := (d + 1)) (y := y_MO_hasAlike) (ft := ft_MO) (ct := ct_MO) (tab := tab_MO_hasAlike) ⟨tk_MO_hasAlike, ft_MO_ok, ct_MO_ok Y⟩ [(27, [0, 1, 3, 4, 5]), (103, [0, 1, 3, 4, 5])] 67 27 _ _ σ h
set_option maxRecDepth 20000 in
theorem s_MO_hasAlike_103 (Y : List kd) (d : Nat) (t : Nat) (v1 : Int32) (v3 : Int32) (v4 : Int32) (v5 : Int32) (σ : sS) (Q : Option sv → sS → Prop)
    (h : Jd Y (d + 1) y_MO_hasAlike 27 [(0, sR t (.inl 6)), (1, sI v1), (3, sI v3), (4, sI v4), (5, sI (v5 + 1))] [] σ Q) :
    Jd Y (d + 1) y_MO_hasAlike 103 [(0, sR t (.inl 6)), (1, sI v1), (3, sI v3), (4, sI v4), (5, sI v5)] [] σ Q :=
  blk_ok (d := (d + 1)) (y := y_MO_hasAlike) (ft := ft_MO) (ct := ct_MO) (tab := tab_MO_hasAlike) ⟨tk_MO_hasAlike, ft_MO_ok, ct_MO_ok Y⟩ [(27, [0, 1, 3, 4, 5]), (103, [0, 1, 3, 4, 5])] 67 103 _ _ σ h
set_option maxRecDepth 20000 in
theorem s_MO_unitFor_0 (Y : List kd) (d : Nat) (v0 : Int32) (v1 : Int32) (σ : sS) (Q : Option sv → sS → Prop)
    (h : Jd Y d y_MO_unitFor 4 [(1, sI v1), (2, sI 1), (3, sI v0)] [] σ Q) :
    Jd Y d y_MO_unitFor 0 [(0, sI v0), (1, sI v1)] [] σ Q :=
  blk_ok (d := d) (y := y_MO_unitFor) (ft := ft_MO) (ct := ct_MO) (tab := tab_MO_unitFor) ⟨tk_MO_unitFor, ft_MO_ok, ct_MO_ok Y⟩ [(4, [1, 2, 3])] 20 0 _ _ σ h
set_option maxRecDepth 20000 in
theorem s_MO_unitFor_4 (Y : List kd) (d : Nat) (v1 : Int32) (v2 : Int32) (v3 : Int32) (σ : sS) (Q : Option sv → sS → Prop)
    (h : ((v3 = v1 → Q (some (sI v2)) σ) ∧ (¬ v3 = v1 → (¬ (10 : Int32) = 0 ∧ Jd Y d y_MO_unitFor 4 [(1, sI v1), (2, sI (v2 * 10)), (3, sI (v3 / 10))] [] σ Q)))) :
    Jd Y d y_MO_unitFor 4 [(1, sI v1), (2, sI v2), (3, sI v3)] [] σ Q :=
  blk_ok (d := d) (y := y_MO_unitFor) (ft := ft_MO) (ct := ct_MO) (tab := tab_MO_unitFor) ⟨tk_MO_unitFor, ft_MO_ok, ct_MO_ok Y⟩ [(4, [1, 2, 3])] 20 4 _ _ σ h
set_option maxRecDepth 20000 in
theorem s_MO_findsList_0 (Y : List kd) (d : Nat) (t : Nat) (v1 : Int32) (v2 : Int32) (σ : sS) (Q : Option sv → sS → Prop)
    (h : (vp_in ((σ t 35) - 1) 400 ∧ ((¬ (σ (t + 24) (Int32.toNatClampNeg ((σ t 35) - 1))) = 0 → Jd Y (d + 1) y_MO_findsList 49 [(0, sR t (.inl 6)), (1, sI v1), (2, sI v2), (3, sI (σ (t + 24) (Int32.toNatClampNeg ((σ t 35) - 1))))] [] σ Q) ∧ ((σ (t + 24) (Int32.toNatClampNeg ((σ t 35) - 1))) = 0 → (vp_in v2 21 ∧ (((σ (t + 2) (Int32.toNatClampNeg v2)) = 3 → Jd Y (d + 1) y_MO_findsList 49 [(0, sR t (.inl 6)), (1, sI v1), (2, sI v2), (3, sI (σ (t + 24) (Int32.toNatClampNeg ((σ t 35) - 1))))] [] σ Q) ∧ (¬ (σ (t + 2) (Int32.toNatClampNeg v2)) = 3 → (vp_in v2 21 ∧ CJ Y d y_MO_finds [sR t (.inl 6), sI ((up σ t 35 ((σ t 35) - 1)) (t + 6) (Int32.toNatClampNeg v2)), sI 10] (up σ t 35 ((σ t 35) - 1)) (rN fun σ1 => Q none σ1))))))))) :
    Jd Y (d + 1) y_MO_findsList 0 [(0, sR t (.inl 6)), (1, sI v1), (2, sI v2)] [] σ Q :=
  blk_ok (d := (d + 1)) (y := y_MO_findsList) (ft := ft_MO) (ct := ct_MO) (tab := tab_MO_findsList) ⟨tk_MO_findsList, ft_MO_ok, ct_MO_ok Y⟩ [(49, [0, 1, 2, 3]), (89, [0, 1, 2, 3])] 90 0 _ _ σ h
set_option maxRecDepth 20000 in
theorem s_MO_findsList_49 (Y : List kd) (d : Nat) (t : Nat) (v1 : Int32) (v2 : Int32) (v3 : Int32) (σ : sS) (Q : Option sv → sS → Prop)
    (h : ((¬ v3 = 0 → Jd Y (d + 1) y_MO_findsList 89 [(0, sR t (.inl 6)), (1, sI v1), (2, sI v2), (3, sI v3)] [] σ Q) ∧ (v3 = 0 → (vp_in v2 21 ∧ (vp_in v1 25 ∧ (vp_in v1 25 ∧ ((¬ (iIn (σ (t + 3) (Int32.toNatClampNeg v2)) (σ (t + 8) (Int32.toNatClampNeg v1)) (σ (t + 9) (Int32.toNatClampNeg v1))) = 0 → Jd Y (d + 1) y_MO_findsList 89 [(0, sR t (.inl 6)), (1, sI v1), (2, sI v2), (3, sI v3)] [] σ Q) ∧ ((iIn (σ (t + 3) (Int32.toNatClampNeg v2)) (σ (t + 8) (Int32.toNatClampNeg v1)) (σ (t + 9) (Int32.toNatClampNeg v1))) = 0 → (vp_in v2 21 ∧ CJ Y d y_MO_finds [sR t (.inl 6), sI (σ (t + 6) (Int32.toNatClampNeg v2)), sI 11] σ (rN fun σ1 => Jd Y (d + 1) y_MO_findsList 89 [(0, sR t (.inl 6)), (1, sI v1), (2, sI v2), (3, sI v3)] [] σ1 Q)))))))))) :
    Jd Y (d + 1) y_MO_findsList 49 [(0, sR t (.inl 6)), (1, sI v1), (2, sI v2), (3, sI v3)] [] σ Q :=
  blk_ok (d := (d + 1)) (y := y_MO_findsList) (ft := ft_MO) (ct := ct_MO) (tab := tab_MO_findsList) ⟨tk_MO_findsList, ft_MO_ok, ct_MO_ok Y⟩ [(49, [0, 1, 2, 3]), (89, [0, 1, 2, 3])] 90 49 _ _ σ h
set_option maxRecDepth 20000 in
theorem s_MO_findsList_89 (Y : List kd) (d : Nat) (t : Nat) (v1 : Int32) (v2 : Int32) (v3 : Int32) (σ : sS) (Q : Option sv → sS → Prop)
    (h : (vp_in v2 21 ∧ ((¬ v3 = (σ (t + 3) (Int32.toNatClampNeg v2)) → (vp_in ((σ t 35) - 1) 400 ∧ (vp_in ((σ t 35) - 1) 400 ∧ (vp_in v1 25 ∧ CJ Y d y_MO_childOf [sR t (.inl 6), sI v2, sI v3] (up σ (t + 24) (Int32.toNatClampNeg ((σ t 35) - 1)) ((σ (t + 24) (Int32.toNatClampNeg ((σ t 35) - 1))) + 1)) (rI fun r1 σ1 => CJ Y d y_MO_looks [sR t (.inl 6), sI ((up σ (t + 24) (Int32.toNatClampNeg ((σ t 35) - 1)) ((σ (t + 24) (Int32.toNatClampNeg ((σ t 35) - 1))) + 1)) (t + 10) (Int32.toNatClampNeg v1)), sI r1] σ1 (rN fun σ2 => Q none σ2)))))) ∧ (v3 = (σ (t + 3) (Int32.toNatClampNeg v2)) → Q none (up σ t 35 ((σ t 35) - 1)))))) :
    Jd Y (d + 1) y_MO_findsList 89 [(0, sR t (.inl 6)), (1, sI v1), (2, sI v2), (3, sI v3)] [] σ Q :=
  blk_ok (d := (d + 1)) (y := y_MO_findsList) (ft := ft_MO) (ct := ct_MO) (tab := tab_MO_findsList) ⟨tk_MO_findsList, ft_MO_ok, ct_MO_ok Y⟩ [(49, [0, 1, 2, 3]), (89, [0, 1, 2, 3])] 90 89 _ _ σ h
set_option maxRecDepth 20000 in
theorem s_MO_findsAgain_0 (Y : List kd) (d : Nat) (t : Nat) (v1 : Int32) (v2 : Int32) (σ : sS) (Q : Option sv → sS → Prop)
    (h : (vp_in ((σ t 35) - 1) 400 ∧ ((¬ (σ (t + 24) (Int32.toNatClampNeg ((σ t 35) - 1))) = 0 → (vp_in ((up σ t 35 ((σ t 35) - 1)) t 35) 400 ∧ ((¬ ((up σ t 35 ((σ t 35) - 1)) (t + 25) (Int32.toNatClampNeg ((up σ t 35 ((σ t 35) - 1)) t 35))) < ((up σ t 35 ((σ t 35) - 1)) t 33) → Jd Y (d + 1) y_MO_findsAgain 92 [(0, sR t (.inl 6)), (2, sI v2), (3, sI 0)] [] (up σ t 35 ((σ t 35) - 1)) Q) ∧ (((up σ t 35 ((σ t 35) - 1)) (t + 25) (Int32.toNatClampNeg ((up σ t 35 ((σ t 35) - 1)) t 35))) < ((up σ t 35 ((σ t 35) - 1)) t 33) → Q none (up (up σ t 35 ((σ t 35) - 1)) t 34 (((up σ t 35 ((σ t 35) - 1)) t 34) + 1)))))) ∧ ((σ (t + 24) (Int32.toNatClampNeg ((σ t 35) - 1))) = 0 → (vp_in ((σ t 35) - 1) 400 ∧ (vp_in (((up σ (t + 24) (Int32.toNatClampNeg ((σ t 35) - 1)) 1) t 35) - 1) 400 ∧ (vp_in v1 25 ∧ CJ Y d y_MO_looks [sR t (.inl 6), sI ((up (up σ (t + 24) (Int32.toNatClampNeg ((σ t 35) - 1)) 1) (t + 25) (Int32.toNatClampNeg (((up σ (t + 24) (Int32.toNatClampNeg ((σ t 35) - 1)) 1) t 35) - 1)) ((up σ (t + 24) (Int32.toNatClampNeg ((σ t 35) - 1)) 1) t 33)) (t + 10) (Int32.toNatClampNeg v1)), sI v2] (up (up σ (t + 24) (Int32.toNatClampNeg ((σ t 35) - 1)) 1) (t + 25) (Int32.toNatClampNeg (((up σ (t + 24) (Int32.toNatClampNeg ((σ t 35) - 1)) 1) t 35) - 1)) ((up σ (t + 24) (Int32.toNatClampNeg ((σ t 35) - 1)) 1) t 33)) (rN fun σ1 => Q none σ1)))))))) :
    Jd Y (d + 1) y_MO_findsAgain 0 [(0, sR t (.inl 6)), (1, sI v1), (2, sI v2)] [] σ Q :=
  blk_ok (d := (d + 1)) (y := y_MO_findsAgain) (ft := ft_MO) (ct := ct_MO) (tab := tab_MO_findsAgain) ⟨tk_MO_findsAgain, ft_MO_ok, ct_MO_ok Y⟩ [(92, [0, 2, 3]), (138, [0, 2, 3])] 88 0 _ _ σ h
set_option maxRecDepth 20000 in
theorem s_MO_findsAgain_92 (Y : List kd) (d : Nat) (t : Nat) (v2 : Int32) (v3 : Int32) (σ : sS) (Q : Option sv → sS → Prop)
    (h : (vp_in v2 21 ∧ ((¬ v3 < (σ (t + 3) (Int32.toNatClampNeg v2)) → Q none σ) ∧ (v3 < (σ (t + 3) (Int32.toNatClampNeg v2)) → (vp_in v2 21 ∧ ((¬ (σ (t + 2) (Int32.toNatClampNeg v2)) = 3 → Q none σ) ∧ ((σ (t + 2) (Int32.toNatClampNeg v2)) = 3 → CJ Y d y_MO_isAgain [sR t (.inl 6), sI v2, sI v3] σ (rI fun r1 σ1 => ((r1 = 0 → Jd Y (d + 1) y_MO_findsAgain 138 [(0, sR t (.inl 6)), (2, sI v2), (3, sI v3)] [] σ1 Q) ∧ (¬ r1 = 0 → CJ Y d y_MO_childOf [sR t (.inl 6), sI v2, sI v3] σ1 (rI fun r2 σ2 => (vp_in r2 21 ∧ CJ Y d y_MO_finds [sR t (.inl 6), sI (σ2 (t + 6) (Int32.toNatClampNeg r2)), sI 12] σ2 (rN fun σ3 => Jd Y (d + 1) y_MO_findsAgain 138 [(0, sR t (.inl 6)), (2, sI v2), (3, sI v3)] [] σ3 Q))))))))))))) :
    Jd Y (d + 1) y_MO_findsAgain 92 [(0, sR t (.inl 6)), (2, sI v2), (3, sI v3)] [] σ Q :=
  blk_ok (d := (d + 1)) (y := y_MO_findsAgain) (ft := ft_MO) (ct := ct_MO) (tab := tab_MO_findsAgain) ⟨tk_MO_findsAgain, ft_MO_ok, ct_MO_ok Y⟩ [(92, [0, 2, 3]), (138, [0, 2, 3])] 88 92 _ _ σ h
set_option maxRecDepth 20000 in
theorem s_MO_findsAgain_138 (Y : List kd) (d : Nat) (t : Nat) (v2 : Int32) (v3 : Int32) (σ : sS) (Q : Option sv → sS → Prop)
    (h : Jd Y (d + 1) y_MO_findsAgain 92 [(0, sR t (.inl 6)), (2, sI v2), (3, sI (v3 + 1))] [] σ Q) :
    Jd Y (d + 1) y_MO_findsAgain 138 [(0, sR t (.inl 6)), (2, sI v2), (3, sI v3)] [] σ Q :=
  blk_ok (d := (d + 1)) (y := y_MO_findsAgain) (ft := ft_MO) (ct := ct_MO) (tab := tab_MO_findsAgain) ⟨tk_MO_findsAgain, ft_MO_ok, ct_MO_ok Y⟩ [(92, [0, 2, 3]), (138, [0, 2, 3])] 88 138 _ _ σ h
set_option maxRecDepth 20000 in
theorem s_MO_isAgain_0 (Y : List kd) (d : Nat) (t : Nat) (v1 : Int32) (v2 : Int32) (σ : sS) (Q : Option sv → sS → Prop)
    (h : Jd Y (d + 1) y_MO_isAgain 2 [(0, sR t (.inl 6)), (1, sI v1), (2, sI v2), (3, sI 0)] [] σ Q) :
    Jd Y (d + 1) y_MO_isAgain 0 [(0, sR t (.inl 6)), (1, sI v1), (2, sI v2)] [] σ Q :=
  blk_ok (d := (d + 1)) (y := y_MO_isAgain) (ft := ft_MO) (ct := ct_MO) (tab := tab_MO_isAgain) ⟨tk_MO_isAgain, ft_MO_ok, ct_MO_ok Y⟩ [(2, [0, 1, 2, 3])] 24 0 _ _ σ h
set_option maxRecDepth 20000 in
theorem s_MO_isAgain_2 (Y : List kd) (d : Nat) (t : Nat) (v1 : Int32) (v2 : Int32) (v3 : Int32) (σ : sS) (Q : Option sv → sS → Prop)
    (h : ((¬ v3 < v2 → (((0 : Int32) = 0 ∨ (0 : Int32) = 1) ∧ Q (some (sI 0)) σ)) ∧ (v3 < v2 → CJ Y d y_MO_childOf [sR t (.inl 6), sI v1, sI v3] σ (rI fun r1 σ1 => CJ Y d y_MO_childOf [sR t (.inl 6), sI v1, sI v2] σ1 (rI fun r2 σ2 => CJ Y d y_MO_areSame [sR t (.inl 6), sI r1, sI r2] σ2 (rI fun r3 σ3 => ((r3 = 0 → Jd Y (d + 1) y_MO_isAgain 2 [(0, sR t (.inl 6)), (1, sI v1), (2, sI v2), (3, sI (v3 + 1))] [] σ3 Q) ∧ (¬ r3 = 0 → (((1 : Int32) = 0 ∨ (1 : Int32) = 1) ∧ Q (some (sI 1)) σ3))))))))) :
    Jd Y (d + 1) y_MO_isAgain 2 [(0, sR t (.inl 6)), (1, sI v1), (2, sI v2), (3, sI v3)] [] σ Q :=
  blk_ok (d := (d + 1)) (y := y_MO_isAgain) (ft := ft_MO) (ct := ct_MO) (tab := tab_MO_isAgain) ⟨tk_MO_isAgain, ft_MO_ok, ct_MO_ok Y⟩ [(2, [0, 1, 2, 3])] 24 2 _ _ σ h
set_option maxRecDepth 20000 in
theorem s_MO_findsEither_0 (Y : List kd) (d : Nat) (t : Nat) (v1 : Int32) (v2 : Int32) (σ : sS) (Q : Option sv → sS → Prop)
    (h : (vp_in ((σ t 35) - 1) 400 ∧ (vp_in ((σ t 35) - 1) 400 ∧ (vp_in ((σ t 35) - 1) 400 ∧ ((¬ (σ (t + 24) (Int32.toNatClampNeg ((σ t 35) - 1))) = 0 → ((¬ (σ (t + 24) (Int32.toNatClampNeg ((σ t 35) - 1))) = 1 → Jd Y (d + 1) y_MO_findsEither 111 [(0, sR t (.inl 6)), (1, sI v1), (2, sI v2), (3, sI (σ (t + 24) (Int32.toNatClampNeg ((σ t 35) - 1))))] [] (up σ (t + 24) (Int32.toNatClampNeg ((σ t 35) - 1)) ((σ (t + 24) (Int32.toNatClampNeg ((σ t 35) - 1))) + 1)) Q) ∧ ((σ (t + 24) (Int32.toNatClampNeg ((σ t 35) - 1))) = 1 → (vp_in (((up σ (t + 24) (Int32.toNatClampNeg ((σ t 35) - 1)) ((σ (t + 24) (Int32.toNatClampNeg ((σ t 35) - 1))) + 1)) t 35) - 1) 400 ∧ ((¬ ((up σ (t + 24) (Int32.toNatClampNeg ((σ t 35) - 1)) ((σ (t + 24) (Int32.toNatClampNeg ((σ t 35) - 1))) + 1)) t 33) = ((up σ (t + 24) (Int32.toNatClampNeg ((σ t 35) - 1)) ((σ (t + 24) (Int32.toNatClampNeg ((σ t 35) - 1))) + 1)) (t + 25) (Int32.toNatClampNeg (((up σ (t + 24) (Int32.toNatClampNeg ((σ t 35) - 1)) ((σ (t + 24) (Int32.toNatClampNeg ((σ t 35) - 1))) + 1)) t 35) - 1))) → Jd Y (d + 1) y_MO_findsEither 111 [(0, sR t (.inl 6)), (1, sI v1), (2, sI v2), (3, sI (σ (t + 24) (Int32.toNatClampNeg ((σ t 35) - 1))))] [] (up σ (t + 24) (Int32.toNatClampNeg ((σ t 35) - 1)) ((σ (t + 24) (Int32.toNatClampNeg ((σ t 35) - 1))) + 1)) Q) ∧ (((up σ (t + 24) (Int32.toNatClampNeg ((σ t 35) - 1)) ((σ (t + 24) (Int32.toNatClampNeg ((σ t 35) - 1))) + 1)) t 33) = ((up σ (t + 24) (Int32.toNatClampNeg ((σ t 35) - 1)) ((σ (t + 24) (Int32.toNatClampNeg ((σ t 35) - 1))) + 1)) (t + 25) (Int32.toNatClampNeg (((up σ (t + 24) (Int32.toNatClampNeg ((σ t 35) - 1)) ((σ (t + 24) (Int32.toNatClampNeg ((σ t 35) - 1))) + 1)) t 35) - 1))) → Q none (up (up σ (t + 24) (Int32.toNatClampNeg ((σ t 35) - 1)) ((σ (t + 24) (Int32.toNatClampNeg ((σ t 35) - 1))) + 1)) t 35 (((up σ (t + 24) (Int32.toNatClampNeg ((σ t 35) - 1)) ((σ (t + 24) (Int32.toNatClampNeg ((σ t 35) - 1))) + 1)) t 35) - 1)))))))) ∧ ((σ (t + 24) (Int32.toNatClampNeg ((σ t 35) - 1))) = 0 → (vp_in (((up σ (t + 24) (Int32.toNatClampNeg ((σ t 35) - 1)) ((σ (t + 24) (Int32.toNatClampNeg ((σ t 35) - 1))) + 1)) t 35) - 1) 400 ∧ (vp_in (((up (up σ (t + 24) (Int32.toNatClampNeg ((σ t 35) - 1)) ((σ (t + 24) (Int32.toNatClampNeg ((σ t 35) - 1))) + 1)) (t + 25) (Int32.toNatClampNeg (((up σ (t + 24) (Int32.toNatClampNeg ((σ t 35) - 1)) ((σ (t + 24) (Int32.toNatClampNeg ((σ t 35) - 1))) + 1)) t 35) - 1)) ((up σ (t + 24) (Int32.toNatClampNeg ((σ t 35) - 1)) ((σ (t + 24) (Int32.toNatClampNeg ((σ t 35) - 1))) + 1)) t 33)) t 35) - 1) 400 ∧ (vp_in v1 25 ∧ CJ Y d y_MO_looks [sR t (.inl 6), sI ((up (up (up σ (t + 24) (Int32.toNatClampNeg ((σ t 35) - 1)) ((σ (t + 24) (Int32.toNatClampNeg ((σ t 35) - 1))) + 1)) (t + 25) (Int32.toNatClampNeg (((up σ (t + 24) (Int32.toNatClampNeg ((σ t 35) - 1)) ((σ (t + 24) (Int32.toNatClampNeg ((σ t 35) - 1))) + 1)) t 35) - 1)) ((up σ (t + 24) (Int32.toNatClampNeg ((σ t 35) - 1)) ((σ (t + 24) (Int32.toNatClampNeg ((σ t 35) - 1))) + 1)) t 33)) (t + 26) (Int32.toNatClampNeg (((up (up σ (t + 24) (Int32.toNatClampNeg ((σ t 35) - 1)) ((σ (t + 24) (Int32.toNatClampNeg ((σ t 35) - 1))) + 1)) (t + 25) (Int32.toNatClampNeg (((up σ (t + 24) (Int32.toNatClampNeg ((σ t 35) - 1)) ((σ (t + 24) (Int32.toNatClampNeg ((σ t 35) - 1))) + 1)) t 35) - 1)) ((up σ (t + 24) (Int32.toNatClampNeg ((σ t 35) - 1)) ((σ (t + 24) (Int32.toNatClampNeg ((σ t 35) - 1))) + 1)) t 33)) t 35) - 1)) ((up (up σ (t + 24) (Int32.toNatClampNeg ((σ t 35) - 1)) ((σ (t + 24) (Int32.toNatClampNeg ((σ t 35) - 1))) + 1)) (t + 25) (Int32.toNatClampNeg (((up σ (t + 24) (Int32.toNatClampNeg ((σ t 35) - 1)) ((σ (t + 24) (Int32.toNatClampNeg ((σ t 35) - 1))) + 1)) t 35) - 1)) ((up σ (t + 24) (Int32.toNatClampNeg ((σ t 35) - 1)) ((σ (t + 24) (Int32.toNatClampNeg ((σ t 35) - 1))) + 1)) t 33)) t 34)) (t + 10) (Int32.toNatClampNeg v1)), sI v2] (up (up (up σ (t + 24) (Int32.toNatClampNeg ((σ t 35) - 1)) ((σ (t + 24) (Int32.toNatClampNeg ((σ t 35) - 1))) + 1)) (t + 25) (Int32.toNatClampNeg (((up σ (t + 24) (Int32.toNatClampNeg ((σ t 35) - 1)) ((σ (t + 24) (Int32.toNatClampNeg ((σ t 35) - 1))) + 1)) t 35) - 1)) ((up σ (t + 24) (Int32.toNatClampNeg ((σ t 35) - 1)) ((σ (t + 24) (Int32.toNatClampNeg ((σ t 35) - 1))) + 1)) t 33)) (t + 26) (Int32.toNatClampNeg (((up (up σ (t + 24) (Int32.toNatClampNeg ((σ t 35) - 1)) ((σ (t + 24) (Int32.toNatClampNeg ((σ t 35) - 1))) + 1)) (t + 25) (Int32.toNatClampNeg (((up σ (t + 24) (Int32.toNatClampNeg ((σ t 35) - 1)) ((σ (t + 24) (Int32.toNatClampNeg ((σ t 35) - 1))) + 1)) t 35) - 1)) ((up σ (t + 24) (Int32.toNatClampNeg ((σ t 35) - 1)) ((σ (t + 24) (Int32.toNatClampNeg ((σ t 35) - 1))) + 1)) t 33)) t 35) - 1)) ((up (up σ (t + 24) (Int32.toNatClampNeg ((σ t 35) - 1)) ((σ (t + 24) (Int32.toNatClampNeg ((σ t 35) - 1))) + 1)) (t + 25) (Int32.toNatClampNeg (((up σ (t + 24) (Int32.toNatClampNeg ((σ t 35) - 1)) ((σ (t + 24) (Int32.toNatClampNeg ((σ t 35) - 1))) + 1)) t 35) - 1)) ((up σ (t + 24) (Int32.toNatClampNeg ((σ t 35) - 1)) ((σ (t + 24) (Int32.toNatClampNeg ((σ t 35) - 1))) + 1)) t 33)) t 34)) (rN fun σ1 => Q none σ1)))))))))) :
    Jd Y (d + 1) y_MO_findsEither 0 [(0, sR t (.inl 6)), (1, sI v1), (2, sI v2)] [] σ Q :=
  blk_ok (d := (d + 1)) (y := y_MO_findsEither) (ft := ft_MO) (ct := ct_MO) (tab := tab_MO_findsEither) ⟨tk_MO_findsEither, ft_MO_ok, ct_MO_ok Y⟩ [(111, [0, 1, 2, 3])] 101 0 _ _ σ h
set_option maxRecDepth 20000 in
theorem s_MO_findsEither_111 (Y : List kd) (d : Nat) (t : Nat) (v1 : Int32) (v2 : Int32) (v3 : Int32) (σ : sS) (Q : Option sv → sS → Prop)
    (h : ((¬ v3 = 1 → CJ Y d y_MO_endsEither [sR t (.inl 6)] σ (rN fun σ1 => Q none σ1)) ∧ (v3 = 1 → (vp_in ((σ t 35) - 1) 400 ∧ (vp_in (((up σ (t + 27) (Int32.toNatClampNeg ((σ t 35) - 1)) (σ t 33)) t 35) - 1) 400 ∧ (vp_in v1 25 ∧ CJ Y d y_MO_looks [sR t (.inl 6), sI ((up (up σ (t + 27) (Int32.toNatClampNeg ((σ t 35) - 1)) (σ t 33)) (t + 28) (Int32.toNatClampNeg (((up σ (t + 27) (Int32.toNatClampNeg ((σ t 35) - 1)) (σ t 33)) t 35) - 1)) ((up σ (t + 27) (Int32.toNatClampNeg ((σ t 35) - 1)) (σ t 33)) t 34)) (t + 11) (Int32.toNatClampNeg v1)), sI v2] (up (up σ (t + 27) (Int32.toNatClampNeg ((σ t 35) - 1)) (σ t 33)) (t + 28) (Int32.toNatClampNeg (((up σ (t + 27) (Int32.toNatClampNeg ((σ t 35) - 1)) (σ t 33)) t 35) - 1)) ((up σ (t + 27) (Int32.toNatClampNeg ((σ t 35) - 1)) (σ t 33)) t 34)) (rN fun σ2 => Q none σ2))))))) :
    Jd Y (d + 1) y_MO_findsEither 111 [(0, sR t (.inl 6)), (1, sI v1), (2, sI v2), (3, sI v3)] [] σ Q :=
  blk_ok (d := (d + 1)) (y := y_MO_findsEither) (ft := ft_MO) (ct := ct_MO) (tab := tab_MO_findsEither) ⟨tk_MO_findsEither, ft_MO_ok, ct_MO_ok Y⟩ [(111, [0, 1, 2, 3])] 101 111 _ _ σ h
set_option maxRecDepth 20000 in
theorem s_MO_endsEither_0 (Y : List kd) (d : Nat) (t : Nat) (σ : sS) (Q : Option sv → sS → Prop)
    (h : (vp_in ((up σ t 35 ((σ t 35) - 1)) t 35) 400 ∧ (vp_in ((up σ t 35 ((σ t 35) - 1)) t 35) 400 ∧ ((¬ (((up σ t 35 ((σ t 35) - 1)) t 33) - ((up σ t 35 ((σ t 35) - 1)) (t + 27) (Int32.toNatClampNeg ((up σ t 35 ((σ t 35) - 1)) t 35)))) < (((up σ t 35 ((σ t 35) - 1)) (t + 27) (Int32.toNatClampNeg ((up σ t 35 ((σ t 35) - 1)) t 35))) - ((up σ t 35 ((σ t 35) - 1)) (t + 25) (Int32.toNatClampNeg ((up σ t 35 ((σ t 35) - 1)) t 35)))) → (vp_in ((up (up σ t 35 ((σ t 35) - 1)) t 33 ((up σ t 35 ((σ t 35) - 1)) (t + 27) (Int32.toNatClampNeg ((up σ t 35 ((σ t 35) - 1)) t 35)))) t 35) 400 ∧ Q none (up (up (up σ t 35 ((σ t 35) - 1)) t 33 ((up σ t 35 ((σ t 35) - 1)) (t + 27) (Int32.toNatClampNeg ((up σ t 35 ((σ t 35) - 1)) t 35)))) t 34 ((up (up σ t 35 ((σ t 35) - 1)) t 33 ((up σ t 35 ((σ t 35) - 1)) (t + 27) (Int32.toNatClampNeg ((up σ t 35 ((σ t 35) - 1)) t 35)))) (t + 28) (Int32.toNatClampNeg ((up (up σ t 35 ((σ t 35) - 1)) t 33 ((up σ t 35 ((σ t 35) - 1)) (t + 27) (Int32.toNatClampNeg ((up σ t 35 ((σ t 35) - 1)) t 35)))) t 35)))))) ∧ ((((up σ t 35 ((σ t 35) - 1)) t 33) - ((up σ t 35 ((σ t 35) - 1)) (t + 27) (Int32.toNatClampNeg ((up σ t 35 ((σ t 35) - 1)) t 35)))) < (((up σ t 35 ((σ t 35) - 1)) (t + 27) (Int32.toNatClampNeg ((up σ t 35 ((σ t 35) - 1)) t 35))) - ((up σ t 35 ((σ t 35) - 1)) (t + 25) (Int32.toNatClampNeg ((up σ t 35 ((σ t 35) - 1)) t 35)))) → CJ Y d y_MO_takesSecond [sR t (.inl 6), sI ((up σ t 35 ((σ t 35) - 1)) (t + 25) (Int32.toNatClampNeg ((up σ t 35 ((σ t 35) - 1)) t 35))), sI ((up σ t 35 ((σ t 35) - 1)) (t + 27) (Int32.toNatClampNeg ((up σ t 35 ((σ t 35) - 1)) t 35)))] (up σ t 35 ((σ t 35) - 1)) (rN fun σ1 => (vp_in (σ1 t 35) 400 ∧ (vp_in (σ1 t 35) 400 ∧ Q none (up σ1 t 34 (((σ1 (t + 26) (Int32.toNatClampNeg (σ1 t 35))) + (σ1 t 34)) - (σ1 (t + 28) (Int32.toNatClampNeg (σ1 t 35))))))))))))) :
    Jd Y (d + 1) y_MO_endsEither 0 [(0, sR t (.inl 6))] [] σ Q :=
  blk_ok (d := (d + 1)) (y := y_MO_endsEither) (ft := ft_MO) (ct := ct_MO) (tab := tab_MO_endsEither) ⟨tk_MO_endsEither, ft_MO_ok, ct_MO_ok Y⟩ [] 60 0 _ _ σ h
set_option maxRecDepth 20000 in
theorem s_MO_takesSecond_0 (Y : List kd) (d : Nat) (t : Nat) (v1 : Int32) (v2 : Int32) (σ : sS) (Q : Option sv → sS → Prop)
    (h : Jd Y d y_MO_takesSecond 10 [(0, sR t (.inl 6)), (1, sI v1), (2, sI v2), (3, sI ((σ t 33) - v2)), (4, sI 0)] [] σ Q) :
    Jd Y d y_MO_takesSecond 0 [(0, sR t (.inl 6)), (1, sI v1), (2, sI v2)] [] σ Q :=
  blk_ok (d := d) (y := y_MO_takesSecond) (ft := ft_MO) (ct := ct_MO) (tab := tab_MO_takesSecond) ⟨tk_MO_takesSecond, ft_MO_ok, ct_MO_ok Y⟩ [(10, [0, 1, 2, 3, 4])] 44 0 _ _ σ h
set_option maxRecDepth 20000 in
theorem s_MO_takesSecond_10 (Y : List kd) (d : Nat) (t : Nat) (v1 : Int32) (v2 : Int32) (v3 : Int32) (v4 : Int32) (σ : sS) (Q : Option sv → sS → Prop)
    (h : ((¬ v4 < v3 → Q none (up σ t 33 (v1 + v3))) ∧ (v4 < v3 → (vp_in (v2 + v4) 16384 ∧ (vp_in (v1 + v4) 16384 ∧ (vp_in (v2 + v4) 16384 ∧ (vp_in (v1 + v4) 16384 ∧ Jd Y d y_MO_takesSecond 10 [(0, sR t (.inl 6)), (1, sI v1), (2, sI v2), (3, sI v3), (4, sI (v4 + 1))] [] (up (up σ (t + 20) (Int32.toNatClampNeg (v1 + v4)) (σ (t + 20) (Int32.toNatClampNeg (v2 + v4)))) (t + 21) (Int32.toNatClampNeg (v1 + v4)) ((up σ (t + 20) (Int32.toNatClampNeg (v1 + v4)) (σ (t + 20) (Int32.toNatClampNeg (v2 + v4)))) (t + 21) (Int32.toNatClampNeg (v2 + v4)))) Q))))))) :
    Jd Y d y_MO_takesSecond 10 [(0, sR t (.inl 6)), (1, sI v1), (2, sI v2), (3, sI v3), (4, sI v4)] [] σ Q :=
  blk_ok (d := d) (y := y_MO_takesSecond) (ft := ft_MO) (ct := ct_MO) (tab := tab_MO_takesSecond) ⟨tk_MO_takesSecond, ft_MO_ok, ct_MO_ok Y⟩ [(10, [0, 1, 2, 3, 4])] 44 10 _ _ σ h
set_option maxRecDepth 20000 in
theorem s_MO_fault_0 (Y : List kd) (d : Nat) (t : Nat) (v1 : Int32) (v2 : Int32) (σ : sS) (Q : Option sv → sS → Prop)
    (h : ((¬ (iIn v2 0 1) = 0 → CJ Y d y_MO_manyNow [sR t (.inl 6)] σ (rI fun r1 σ1 => ((¬ (iIn v1 0 (r1 - 1)) = 0 → ((¬ v2 = 0 → (vp_in v1 16384 ∧ Q (some (sI (σ1 (t + 21) (Int32.toNatClampNeg v1)))) σ1)) ∧ (v2 = 0 → (vp_in v1 16384 ∧ Q (some (sI (σ1 (t + 20) (Int32.toNatClampNeg v1)))) σ1)))) ∧ ((iIn v1 0 (r1 - 1)) = 0 → CJ Y d y_MO_no [sR t (.inl 6), sI (-1)] σ1 (rI fun r2 σ2 => Q (some (sI r2)) σ2))))) ∧ ((iIn v2 0 1) = 0 → CJ Y d y_MO_no [sR t (.inl 6), sI (-2)] σ (rI fun r3 σ3 => Q (some (sI r3)) σ3)))) :
    Jd Y (d + 1) y_MO_fault 0 [(0, sR t (.inl 6)), (1, sI v1), (2, sI v2)] [] σ Q :=
  blk_ok (d := (d + 1)) (y := y_MO_fault) (ft := ft_MO) (ct := ct_MO) (tab := tab_MO_fault) ⟨tk_MO_fault, ft_MO_ok, ct_MO_ok Y⟩ [] 35 0 _ _ σ h
set_option maxRecDepth 20000 in
theorem s_MO_coded_0 (Y : List kd) (d : Nat) (t : Nat) (v1 : Int32) (σ : sS) (Q : Option sv → sS → Prop)
    (h : ((¬ (iIn v1 1 12) = 0 → CJ Y d y_MO_manyNow [sR t (.inl 6)] σ (rI fun r1 σ1 => Jd Y (d + 1) y_MO_coded 26 [(0, sR t (.inl 6)), (1, sI v1), (2, sI 0), (3, sI (r1 - 1))] [] σ1 Q)) ∧ ((iIn v1 1 12) = 0 → CJ Y d y_MO_no [sR t (.inl 6), sI (-2)] σ (rI fun r2 σ2 => Q (some (sI r2)) σ2)))) :
    Jd Y (d + 1) y_MO_coded 0 [(0, sR t (.inl 6)), (1, sI v1)] [] σ Q :=
  blk_ok (d := (d + 1)) (y := y_MO_coded) (ft := ft_MO) (ct := ct_MO) (tab := tab_MO_coded) ⟨tk_MO_coded, ft_MO_ok, ct_MO_ok Y⟩ [(26, [0, 1, 2, 3]), (46, [0, 1, 3])] 36 0 _ _ σ h
set_option maxRecDepth 20000 in
theorem s_MO_coded_26 (Y : List kd) (d : Nat) (t : Nat) (v1 : Int32) (v2 : Int32) (v3 : Int32) (σ : sS) (Q : Option sv → sS → Prop)
    (h : ((v3 < 0 → Q (some (sI v2)) σ) ∧ (¬ v3 < 0 → (vp_in v3 16384 ∧ ((¬ (σ (t + 21) (Int32.toNatClampNeg v3)) = v1 → Jd Y (d + 1) y_MO_coded 46 [(0, sR t (.inl 6)), (1, sI v1), (3, sI v3)] [sI 0, sI v2] σ Q) ∧ ((σ (t + 21) (Int32.toNatClampNeg v3)) = v1 → Jd Y (d + 1) y_MO_coded 46 [(0, sR t (.inl 6)), (1, sI v1), (3, sI v3)] [sI 1, sI v2] σ Q)))))) :
    Jd Y (d + 1) y_MO_coded 26 [(0, sR t (.inl 6)), (1, sI v1), (2, sI v2), (3, sI v3)] [] σ Q :=
  blk_ok (d := (d + 1)) (y := y_MO_coded) (ft := ft_MO) (ct := ct_MO) (tab := tab_MO_coded) ⟨tk_MO_coded, ft_MO_ok, ct_MO_ok Y⟩ [(26, [0, 1, 2, 3]), (46, [0, 1, 3])] 36 26 _ _ σ h
set_option maxRecDepth 20000 in
theorem s_MO_coded_46 (Y : List kd) (d : Nat) (t : Nat) (v1 : Int32) (v3 : Int32) (s0 : Int32) (s1 : Int32) (σ : sS) (Q : Option sv → sS → Prop)
    (h : Jd Y (d + 1) y_MO_coded 26 [(0, sR t (.inl 6)), (1, sI v1), (2, sI (s1 + s0)), (3, sI (v3 + (-1)))] [] σ Q) :
    Jd Y (d + 1) y_MO_coded 46 [(0, sR t (.inl 6)), (1, sI v1), (3, sI v3)] [sI s0, sI s1] σ Q :=
  blk_ok (d := (d + 1)) (y := y_MO_coded) (ft := ft_MO) (ct := ct_MO) (tab := tab_MO_coded) ⟨tk_MO_coded, ft_MO_ok, ct_MO_ok Y⟩ [(26, [0, 1, 2, 3]), (46, [0, 1, 3])] 36 46 _ _ σ h
set_option maxRecDepth 20000 in
theorem s_MO_below_0 (Y : List kd) (d : Nat) (t : Nat) (v1 : Int32) (σ : sS) (Q : Option sv → sS → Prop)
    (h : (((iBd v1 0 99999) = 0 → CJ Y d y_MO_manyNow [sR t (.inl 6)] σ (rI fun r1 σ1 => Jd Y (d + 1) y_MO_below 29 [(0, sR t (.inl 6)), (1, sI v1), (3, sI 0), (4, sI (r1 - 1))] [] σ1 Q)) ∧ (¬ (iBd v1 0 99999) = 0 → CJ Y d y_MO_no [sR t (.inl 6), sI (iBd v1 0 99999)] σ (rI fun r2 σ2 => Q (some (sI r2)) σ2)))) :
    Jd Y (d + 1) y_MO_below 0 [(0, sR t (.inl 6)), (1, sI v1)] [] σ Q :=
  blk_ok (d := (d + 1)) (y := y_MO_below) (ft := ft_MO) (ct := ct_MO) (tab := tab_MO_below) ⟨tk_MO_below, ft_MO_ok, ct_MO_ok Y⟩ [(29, [0, 1, 3, 4]), (54, [0, 1, 4])] 39 0 _ _ σ h
set_option maxRecDepth 20000 in
theorem s_MO_below_29 (Y : List kd) (d : Nat) (t : Nat) (v1 : Int32) (v3 : Int32) (v4 : Int32) (σ : sS) (Q : Option sv → sS → Prop)
    (h : ((v4 < 0 → Q (some (sI v3)) σ) ∧ (¬ v4 < 0 → (vp_in v4 16384 ∧ CJ Y d y_MO_isBelow [sI (σ (t + 20) (Int32.toNatClampNeg v4)), sI v1] σ (rI fun r1 σ1 => ((r1 = 0 → Jd Y (d + 1) y_MO_below 54 [(0, sR t (.inl 6)), (1, sI v1), (4, sI v4)] [sI 0, sI v3] σ1 Q) ∧ (¬ r1 = 0 → Jd Y (d + 1) y_MO_below 54 [(0, sR t (.inl 6)), (1, sI v1), (4, sI v4)] [sI 1, sI v3] σ1 Q))))))) :
    Jd Y (d + 1) y_MO_below 29 [(0, sR t (.inl 6)), (1, sI v1), (3, sI v3), (4, sI v4)] [] σ Q :=
  blk_ok (d := (d + 1)) (y := y_MO_below) (ft := ft_MO) (ct := ct_MO) (tab := tab_MO_below) ⟨tk_MO_below, ft_MO_ok, ct_MO_ok Y⟩ [(29, [0, 1, 3, 4]), (54, [0, 1, 4])] 39 29 _ _ σ h
set_option maxRecDepth 20000 in
theorem s_MO_below_54 (Y : List kd) (d : Nat) (t : Nat) (v1 : Int32) (v4 : Int32) (s0 : Int32) (s1 : Int32) (σ : sS) (Q : Option sv → sS → Prop)
    (h : Jd Y (d + 1) y_MO_below 29 [(0, sR t (.inl 6)), (1, sI v1), (3, sI (s1 + s0)), (4, sI (v4 + (-1)))] [] σ Q) :
    Jd Y (d + 1) y_MO_below 54 [(0, sR t (.inl 6)), (1, sI v1), (4, sI v4)] [sI s0, sI s1] σ Q :=
  blk_ok (d := (d + 1)) (y := y_MO_below) (ft := ft_MO) (ct := ct_MO) (tab := tab_MO_below) ⟨tk_MO_below, ft_MO_ok, ct_MO_ok Y⟩ [(29, [0, 1, 3, 4]), (54, [0, 1, 4])] 39 54 _ _ σ h
set_option maxRecDepth 20000 in
theorem s_MO_waits_0 (Y : List kd) (d : Nat) (t : Nat) (σ : sS) (Q : Option sv → sS → Prop)
    (h : CJ Y d y_MO_findFaults [sR t (.inl 6)] σ (rN fun σ1 => Q (some (sI (σ1 t 34))) σ1)) :
    Jd Y (d + 1) y_MO_waits 0 [(0, sR t (.inl 6))] [] σ Q :=
  blk_ok (d := (d + 1)) (y := y_MO_waits) (ft := ft_MO) (ct := ct_MO) (tab := tab_MO_waits) ⟨tk_MO_waits, ft_MO_ok, ct_MO_ok Y⟩ [] 7 0 _ _ σ h
set_option maxRecDepth 20000 in
theorem s_MO_first_0 (Y : List kd) (d : Nat) (t : Nat) (σ : sS) (Q : Option sv → sS → Prop)
    (h : CJ Y d y_MO_findFaults [sR t (.inl 6)] σ (rN fun σ1 => CJ Y d y_MO_toldAt [sR t (.inl 6), sI 0] σ1 (rI fun r2 σ2 => Q (some (sI r2)) σ2))) :
    Jd Y (d + 1) y_MO_first 0 [(0, sR t (.inl 6))] [] σ Q :=
  blk_ok (d := (d + 1)) (y := y_MO_first) (ft := ft_MO) (ct := ct_MO) (tab := tab_MO_first) ⟨tk_MO_first, ft_MO_ok, ct_MO_ok Y⟩ [] 8 0 _ _ σ h
set_option maxRecDepth 20000 in
theorem s_MO_toldAt_0 (Y : List kd) (d : Nat) (t : Nat) (v1 : Int32) (σ : sS) (Q : Option sv → sS → Prop)
    (h : (((iIn v1 0 ((σ t 33) - 1)) = 0 → Q (some (sI (-9))) σ) ∧ (¬ (iIn v1 0 ((σ t 33) - 1)) = 0 → (vp_in v1 16384 ∧ (vp_in v1 16384 ∧ Q (some (sI ((100 * (σ (t + 20) (Int32.toNatClampNeg v1))) + (σ (t + 21) (Int32.toNatClampNeg v1))))) σ))))) :
    Jd Y (d + 1) y_MO_toldAt 0 [(0, sR t (.inl 6)), (1, sI v1)] [] σ Q :=
  blk_ok (d := (d + 1)) (y := y_MO_toldAt) (ft := ft_MO) (ct := ct_MO) (tab := tab_MO_toldAt) ⟨tk_MO_toldAt, ft_MO_ok, ct_MO_ok Y⟩ [] 24 0 _ _ σ h
set_option maxRecDepth 20000 in
theorem s_MO_limited_0 (Y : List kd) (d : Nat) (t : Nat) (v1 : Int32) (v2 : Int32) (σ : sS) (Q : Option sv → sS → Prop)
    (h : ((¬ (iBd v1 0 99) = 0 → Jd Y (d + 1) y_MO_limited 24 [(0, sR t (.inl 6)), (1, sI v1), (2, sI v2), (3, sI (iBd v1 0 99))] [] σ Q) ∧ ((iBd v1 0 99) = 0 → ((¬ (iIn v2 0 1) = 0 → Jd Y (d + 1) y_MO_limited 24 [(0, sR t (.inl 6)), (1, sI v1), (2, sI v2), (3, sI (iBd v1 0 99))] [] σ Q) ∧ ((iIn v2 0 1) = 0 → Jd Y (d + 1) y_MO_limited 24 [(0, sR t (.inl 6)), (1, sI v1), (2, sI v2), (3, sI (-2))] [] σ Q))))) :
    Jd Y (d + 1) y_MO_limited 0 [(0, sR t (.inl 6)), (1, sI v1), (2, sI v2)] [] σ Q :=
  blk_ok (d := (d + 1)) (y := y_MO_limited) (ft := ft_MO) (ct := ct_MO) (tab := tab_MO_limited) ⟨tk_MO_limited, ft_MO_ok, ct_MO_ok Y⟩ [(24, [0, 1, 2, 3]), (50, [0, 2])] 41 0 _ _ σ h
set_option maxRecDepth 20000 in
theorem s_MO_limited_24 (Y : List kd) (d : Nat) (t : Nat) (v1 : Int32) (v2 : Int32) (v3 : Int32) (σ : sS) (Q : Option sv → sS → Prop)
    (h : ((v3 = 0 → CJ Y d y_MO_manyNow [sR t (.inl 6)] σ (rI fun r1 σ1 => ((¬ r1 < v1 → Jd Y (d + 1) y_MO_limited 50 [(0, sR t (.inl 6)), (2, sI v2)] [sI v1] σ1 Q) ∧ (r1 < v1 → Jd Y (d + 1) y_MO_limited 50 [(0, sR t (.inl 6)), (2, sI v2)] [sI (σ1 t 33)] σ1 Q)))) ∧ (¬ v3 = 0 → CJ Y d y_MO_no [sR t (.inl 6), sI v3] σ (rI fun r2 σ2 => Q (some (sI r2)) σ2)))) :
    Jd Y (d + 1) y_MO_limited 24 [(0, sR t (.inl 6)), (1, sI v1), (2, sI v2), (3, sI v3)] [] σ Q :=
  blk_ok (d := (d + 1)) (y := y_MO_limited) (ft := ft_MO) (ct := ct_MO) (tab := tab_MO_limited) ⟨tk_MO_limited, ft_MO_ok, ct_MO_ok Y⟩ [(24, [0, 1, 2, 3]), (50, [0, 2])] 41 24 _ _ σ h
set_option maxRecDepth 20000 in
theorem s_MO_limited_50 (Y : List kd) (d : Nat) (t : Nat) (v2 : Int32) (s0 : Int32) (σ : sS) (Q : Option sv → sS → Prop)
    (h : ((¬ v2 = 0 → CJ Y d y_MO_toldAt [sR t (.inl 6), sI (s0 - 1)] σ (rI fun r1 σ1 => Q (some (sI r1)) σ1)) ∧ (v2 = 0 → Q (some (sI s0)) σ))) :
    Jd Y (d + 1) y_MO_limited 50 [(0, sR t (.inl 6)), (2, sI v2)] [sI s0] σ Q :=
  blk_ok (d := (d + 1)) (y := y_MO_limited) (ft := ft_MO) (ct := ct_MO) (tab := tab_MO_limited) ⟨tk_MO_limited, ft_MO_ok, ct_MO_ok Y⟩ [(24, [0, 1, 2, 3]), (50, [0, 2])] 41 50 _ _ σ h
set_option maxRecDepth 20000 in
theorem s_MO_total_0 (Y : List kd) (d : Nat) (t : Nat) (σ : sS) (Q : Option sv → sS → Prop)
    (h : CJ Y d y_MO_manyNow [sR t (.inl 6)] σ (rI fun r1 σ1 => ((¬ (0 : Int32) < r1 → CJ Y d y_MO_allNumbers [sR t (.inl 6)] σ1 (rI fun r2 σ2 => Q (some (sI r2)) σ2)) ∧ ((0 : Int32) < r1 → Q (some (sI (-9))) σ1)))) :
    Jd Y (d + 1) y_MO_total 0 [(0, sR t (.inl 6))] [] σ Q :=
  blk_ok (d := (d + 1)) (y := y_MO_total) (ft := ft_MO) (ct := ct_MO) (tab := tab_MO_total) ⟨tk_MO_total, ft_MO_ok, ct_MO_ok Y⟩ [] 10 0 _ _ σ h
set_option maxRecDepth 20000 in
theorem s_MO_allNumbers_0 (Y : List kd) (d : Nat) (t : Nat) (σ : sS) (Q : Option sv → sS → Prop)
    (h : Jd Y d y_MO_allNumbers 4 [(0, sR t (.inl 6)), (1, sI 0), (2, sI 0)] [] σ Q) :
    Jd Y d y_MO_allNumbers 0 [(0, sR t (.inl 6))] [] σ Q :=
  blk_ok (d := d) (y := y_MO_allNumbers) (ft := ft_MO) (ct := ct_MO) (tab := tab_MO_allNumbers) ⟨tk_MO_allNumbers, ft_MO_ok, ct_MO_ok Y⟩ [(4, [0, 1, 2]), (32, [0, 2])] 28 0 _ _ σ h
set_option maxRecDepth 20000 in
theorem s_MO_allNumbers_4 (Y : List kd) (d : Nat) (t : Nat) (v1 : Int32) (v2 : Int32) (σ : sS) (Q : Option sv → sS → Prop)
    (h : ((¬ v2 < (σ t 6) → Q (some (sI v1)) σ) ∧ (v2 < (σ t 6) → (vp_in v2 21 ∧ ((¬ (σ (t + 2) (Int32.toNatClampNeg v2)) = 0 → Jd Y d y_MO_allNumbers 32 [(0, sR t (.inl 6)), (2, sI v2)] [sI 0, sI v1] σ Q) ∧ ((σ (t + 2) (Int32.toNatClampNeg v2)) = 0 → (vp_in v2 21 ∧ Jd Y d y_MO_allNumbers 32 [(0, sR t (.inl 6)), (2, sI v2)] [sI (σ (t + 3) (Int32.toNatClampNeg v2)), sI v1] σ Q))))))) :
    Jd Y d y_MO_allNumbers 4 [(0, sR t (.inl 6)), (1, sI v1), (2, sI v2)] [] σ Q :=
  blk_ok (d := d) (y := y_MO_allNumbers) (ft := ft_MO) (ct := ct_MO) (tab := tab_MO_allNumbers) ⟨tk_MO_allNumbers, ft_MO_ok, ct_MO_ok Y⟩ [(4, [0, 1, 2]), (32, [0, 2])] 28 4 _ _ σ h
set_option maxRecDepth 20000 in
theorem s_MO_allNumbers_32 (Y : List kd) (d : Nat) (t : Nat) (v2 : Int32) (s0 : Int32) (s1 : Int32) (σ : sS) (Q : Option sv → sS → Prop)
    (h : Jd Y d y_MO_allNumbers 4 [(0, sR t (.inl 6)), (1, sI (s1 + s0)), (2, sI (v2 + 1))] [] σ Q) :
    Jd Y d y_MO_allNumbers 32 [(0, sR t (.inl 6)), (2, sI v2)] [sI s0, sI s1] σ Q :=
  blk_ok (d := d) (y := y_MO_allNumbers) (ft := ft_MO) (ct := ct_MO) (tab := tab_MO_allNumbers) ⟨tk_MO_allNumbers, ft_MO_ok, ct_MO_ok Y⟩ [(4, [0, 1, 2]), (32, [0, 2])] 28 32 _ _ σ h
set_option maxRecDepth 20000 in
theorem s_MO_same_0 (Y : List kd) (d : Nat) (t : Nat) (v1 : Int32) (v2 : Int32) (σ : sS) (Q : Option sv → sS → Prop)
    (h : CJ Y d y_MO_partAt [sR t (.inl 6), sI v1] σ (rI fun r1 σ1 => ((r1 < 0 → Jd Y (d + 1) y_MO_same 16 [(0, sR t (.inl 6))] [] σ1 Q) ∧ (¬ r1 < 0 → CJ Y d y_MO_partAt [sR t (.inl 6), sI v2] σ1 (rI fun r2 σ2 => ((¬ r2 < 0 → CJ Y d y_MO_partAt [sR t (.inl 6), sI v1] σ2 (rI fun r3 σ3 => CJ Y d y_MO_partAt [sR t (.inl 6), sI v2] σ3 (rI fun r4 σ4 => CJ Y d y_MO_areSame [sR t (.inl 6), sI r3, sI r4] σ4 (rI fun r5 σ5 => ((r5 = 0 → Q (some (sI 0)) σ5) ∧ (¬ r5 = 0 → Q (some (sI 1)) σ5)))))) ∧ (r2 < 0 → Jd Y (d + 1) y_MO_same 16 [(0, sR t (.inl 6))] [] σ2 Q))))))) :
    Jd Y (d + 1) y_MO_same 0 [(0, sR t (.inl 6)), (1, sI v1), (2, sI v2)] [] σ Q :=
  blk_ok (d := (d + 1)) (y := y_MO_same) (ft := ft_MO) (ct := ct_MO) (tab := tab_MO_same) ⟨tk_MO_same, ft_MO_ok, ct_MO_ok Y⟩ [(16, [0])] 27 0 _ _ σ h
set_option maxRecDepth 20000 in
theorem s_MO_same_16 (Y : List kd) (d : Nat) (t : Nat) (σ : sS) (Q : Option sv → sS → Prop)
    (h : CJ Y d y_MO_no [sR t (.inl 6), sI (-1)] σ (rI fun r1 σ1 => Q (some (sI r1)) σ1)) :
    Jd Y (d + 1) y_MO_same 16 [(0, sR t (.inl 6))] [] σ Q :=
  blk_ok (d := (d + 1)) (y := y_MO_same) (ft := ft_MO) (ct := ct_MO) (tab := tab_MO_same) ⟨tk_MO_same, ft_MO_ok, ct_MO_ok Y⟩ [(16, [0])] 27 16 _ _ σ h
set_option maxRecDepth 20000 in
theorem s_MO_different_0 (Y : List kd) (d : Nat) (t : Nat) (σ : sS) (Q : Option sv → sS → Prop)
    (h : Jd Y (d + 1) y_MO_different 4 [(0, sR t (.inl 6)), (1, sI 0), (2, sI 0)] [] σ Q) :
    Jd Y (d + 1) y_MO_different 0 [(0, sR t (.inl 6))] [] σ Q :=
  blk_ok (d := (d + 1)) (y := y_MO_different) (ft := ft_MO) (ct := ct_MO) (tab := tab_MO_different) ⟨tk_MO_different, ft_MO_ok, ct_MO_ok Y⟩ [(4, [0, 1, 2]), (29, [0, 2])] 27 0 _ _ σ h
set_option maxRecDepth 20000 in
theorem s_MO_different_4 (Y : List kd) (d : Nat) (t : Nat) (v1 : Int32) (v2 : Int32) (σ : sS) (Q : Option sv → sS → Prop)
    (h : ((¬ v2 < (σ t 6) → Q (some (sI v1)) σ) ∧ (v2 < (σ t 6) → CJ Y d y_MO_alike [sR t (.inl 6), sI v2, sI (v2 + 1)] σ (rI fun r1 σ1 => ((¬ r1 = 0 → Jd Y (d + 1) y_MO_different 29 [(0, sR t (.inl 6)), (2, sI v2)] [sI 0, sI v1] σ1 Q) ∧ (r1 = 0 → Jd Y (d + 1) y_MO_different 29 [(0, sR t (.inl 6)), (2, sI v2)] [sI 1, sI v1] σ1 Q)))))) :
    Jd Y (d + 1) y_MO_different 4 [(0, sR t (.inl 6)), (1, sI v1), (2, sI v2)] [] σ Q :=
  blk_ok (d := (d + 1)) (y := y_MO_different) (ft := ft_MO) (ct := ct_MO) (tab := tab_MO_different) ⟨tk_MO_different, ft_MO_ok, ct_MO_ok Y⟩ [(4, [0, 1, 2]), (29, [0, 2])] 27 4 _ _ σ h
set_option maxRecDepth 20000 in
theorem s_MO_different_29 (Y : List kd) (d : Nat) (t : Nat) (v2 : Int32) (s0 : Int32) (s1 : Int32) (σ : sS) (Q : Option sv → sS → Prop)
    (h : Jd Y (d + 1) y_MO_different 4 [(0, sR t (.inl 6)), (1, sI (s1 + s0)), (2, sI (v2 + 1))] [] σ Q) :
    Jd Y (d + 1) y_MO_different 29 [(0, sR t (.inl 6)), (2, sI v2)] [sI s0, sI s1] σ Q :=
  blk_ok (d := (d + 1)) (y := y_MO_different) (ft := ft_MO) (ct := ct_MO) (tab := tab_MO_different) ⟨tk_MO_different, ft_MO_ok, ct_MO_ok Y⟩ [(4, [0, 1, 2]), (29, [0, 2])] 27 29 _ _ σ h
set_option maxRecDepth 20000 in
theorem s_MO_alike_0 (Y : List kd) (d : Nat) (t : Nat) (v1 : Int32) (v2 : Int32) (σ : sS) (Q : Option sv → sS → Prop)
    (h : Jd Y (d + 1) y_MO_alike 5 [(0, sR t (.inl 6)), (1, sI v1), (3, sI 0), (4, sI v2)] [] σ Q) :
    Jd Y (d + 1) y_MO_alike 0 [(0, sR t (.inl 6)), (1, sI v1), (2, sI v2)] [] σ Q :=
  blk_ok (d := (d + 1)) (y := y_MO_alike) (ft := ft_MO) (ct := ct_MO) (tab := tab_MO_alike) ⟨tk_MO_alike, ft_MO_ok, ct_MO_ok Y⟩ [(5, [0, 1, 3, 4]), (30, [0, 1, 4])] 25 0 _ _ σ h
set_option maxRecDepth 20000 in
theorem s_MO_alike_5 (Y : List kd) (d : Nat) (t : Nat) (v1 : Int32) (v3 : Int32) (v4 : Int32) (σ : sS) (Q : Option sv → sS → Prop)
    (h : ((¬ v4 < (σ t 6) → Q (some (sI v3)) σ) ∧ (v4 < (σ t 6) → CJ Y d y_MO_areSame [sR t (.inl 6), sI v1, sI v4] σ (rI fun r1 σ1 => ((r1 = 0 → Jd Y (d + 1) y_MO_alike 30 [(0, sR t (.inl 6)), (1, sI v1), (4, sI v4)] [sI 0, sI v3] σ1 Q) ∧ (¬ r1 = 0 → Jd Y (d + 1) y_MO_alike 30 [(0, sR t (.inl 6)), (1, sI v1), (4, sI v4)] [sI 1, sI v3] σ1 Q)))))) :
    Jd Y (d + 1) y_MO_alike 5 [(0, sR t (.inl 6)), (1, sI v1), (3, sI v3), (4, sI v4)] [] σ Q :=
  blk_ok (d := (d + 1)) (y := y_MO_alike) (ft := ft_MO) (ct := ct_MO) (tab := tab_MO_alike) ⟨tk_MO_alike, ft_MO_ok, ct_MO_ok Y⟩ [(5, [0, 1, 3, 4]), (30, [0, 1, 4])] 25 5 _ _ σ h
set_option maxRecDepth 20000 in
theorem s_MO_alike_30 (Y : List kd) (d : Nat) (t : Nat) (v1 : Int32) (v4 : Int32) (s0 : Int32) (s1 : Int32) (σ : sS) (Q : Option sv → sS → Prop)
    (h : Jd Y (d + 1) y_MO_alike 5 [(0, sR t (.inl 6)), (1, sI v1), (3, sI (s1 + s0)), (4, sI (v4 + 1))] [] σ Q) :
    Jd Y (d + 1) y_MO_alike 30 [(0, sR t (.inl 6)), (1, sI v1), (4, sI v4)] [sI s0, sI s1] σ Q :=
  blk_ok (d := (d + 1)) (y := y_MO_alike) (ft := ft_MO) (ct := ct_MO) (tab := tab_MO_alike) ⟨tk_MO_alike, ft_MO_ok, ct_MO_ok Y⟩ [(5, [0, 1, 3, 4]), (30, [0, 1, 4])] 25 30 _ _ σ h
set_option maxRecDepth 20000 in
theorem s_MO_often_0 (Y : List kd) (d : Nat) (t : Nat) (v1 : Int32) (σ : sS) (Q : Option sv → sS → Prop)
    (h : ((¬ (iIn v1 0 1) = 0 → Jd Y (d + 1) y_MO_often 20 [(0, sR t (.inl 6)), (1, sI v1), (2, sI 0), (3, sI 1)] [] σ Q) ∧ ((iIn v1 0 1) = 0 → CJ Y d y_MO_no [sR t (.inl 6), sI (-2)] σ (rI fun r1 σ1 => Q (some (sI r1)) σ1)))) :
    Jd Y (d + 1) y_MO_often 0 [(0, sR t (.inl 6)), (1, sI v1)] [] σ Q :=
  blk_ok (d := (d + 1)) (y := y_MO_often) (ft := ft_MO) (ct := ct_MO) (tab := tab_MO_often) ⟨tk_MO_often, ft_MO_ok, ct_MO_ok Y⟩ [(20, [0, 1, 2, 3]), (48, [0, 1, 3])] 46 0 _ _ σ h
set_option maxRecDepth 20000 in
theorem s_MO_often_20 (Y : List kd) (d : Nat) (t : Nat) (v1 : Int32) (v2 : Int32) (v3 : Int32) (σ : sS) (Q : Option sv → sS → Prop)
    (h : ((¬ v3 < (σ t 6) → ((¬ v1 = 0 → CJ Y d y_MO_alike [sR t (.inl 6), sI v2, sI 0] σ (rI fun r1 σ1 => Q (some (sI r1)) σ1)) ∧ (v1 = 0 → (vp_in v2 21 ∧ Q (some (sI (σ (t + 6) (Int32.toNatClampNeg v2)))) σ)))) ∧ (v3 < (σ t 6) → CJ Y d y_MO_alike [sR t (.inl 6), sI v3, sI 0] σ (rI fun r2 σ2 => CJ Y d y_MO_alike [sR t (.inl 6), sI v2, sI 0] σ2 (rI fun r3 σ3 => ((¬ r3 < r2 → Jd Y (d + 1) y_MO_often 48 [(0, sR t (.inl 6)), (1, sI v1), (3, sI v3)] [sI v2] σ3 Q) ∧ (r3 < r2 → Jd Y (d + 1) y_MO_often 48 [(0, sR t (.inl 6)), (1, sI v1), (3, sI v3)] [sI v3] σ3 Q))))))) :
    Jd Y (d + 1) y_MO_often 20 [(0, sR t (.inl 6)), (1, sI v1), (2, sI v2), (3, sI v3)] [] σ Q :=
  blk_ok (d := (d + 1)) (y := y_MO_often) (ft := ft_MO) (ct := ct_MO) (tab := tab_MO_often) ⟨tk_MO_often, ft_MO_ok, ct_MO_ok Y⟩ [(20, [0, 1, 2, 3]), (48, [0, 1, 3])] 46 20 _ _ σ h
set_option maxRecDepth 20000 in
theorem s_MO_often_48 (Y : List kd) (d : Nat) (t : Nat) (v1 : Int32) (v3 : Int32) (s0 : Int32) (σ : sS) (Q : Option sv → sS → Prop)
    (h : Jd Y (d + 1) y_MO_often 20 [(0, sR t (.inl 6)), (1, sI v1), (2, sI s0), (3, sI (v3 + 1))] [] σ Q) :
    Jd Y (d + 1) y_MO_often 48 [(0, sR t (.inl 6)), (1, sI v1), (3, sI v3)] [sI s0] σ Q :=
  blk_ok (d := (d + 1)) (y := y_MO_often) (ft := ft_MO) (ct := ct_MO) (tab := tab_MO_often) ⟨tk_MO_often, ft_MO_ok, ct_MO_ok Y⟩ [(20, [0, 1, 2, 3]), (48, [0, 1, 3])] 46 48 _ _ σ h
set_option maxRecDepth 20000 in
theorem s_MO_without_0 (Y : List kd) (d : Nat) (t : Nat) (v1 : Int32) (σ : sS) (Q : Option sv → sS → Prop)
    (h : CJ Y d y_MO_partAt [sR t (.inl 6), sI v1] σ (rI fun r1 σ1 => ((¬ r1 < 0 → ((¬ r1 = 0 → Jd Y (d + 1) y_MO_without 24 [(0, sR t (.inl 6)), (2, sI r1)] [sI 0] σ1 Q) ∧ (r1 = 0 → Jd Y (d + 1) y_MO_without 24 [(0, sR t (.inl 6)), (2, sI r1)] [sI (-3)] σ1 Q))) ∧ (r1 < 0 → Jd Y (d + 1) y_MO_without 24 [(0, sR t (.inl 6)), (2, sI r1)] [sI (-1)] σ1 Q)))) :
    Jd Y (d + 1) y_MO_without 0 [(0, sR t (.inl 6)), (1, sI v1)] [] σ Q :=
  blk_ok (d := (d + 1)) (y := y_MO_without) (ft := ft_MO) (ct := ct_MO) (tab := tab_MO_without) ⟨tk_MO_without, ft_MO_ok, ct_MO_ok Y⟩ [(24, [0, 2])] 34 0 _ _ σ h
set_option maxRecDepth 20000 in
theorem s_MO_without_24 (Y : List kd) (d : Nat) (t : Nat) (v2 : Int32) (s0 : Int32) (σ : sS) (Q : Option sv → sS → Prop)
    (h : ((s0 = 0 → CJ Y d y_MO_minds [sR t (.inl 6)] σ (rN fun σ1 => CJ Y d y_MO_leavesOut [sR t (.inl 6), sI v2] σ1 (rN fun σ2 => CJ Y d y_MO_manyNow [sR t (.inl 6)] σ2 (rI fun r3 σ3 => CJ Y d y_MO_forgets [sR t (.inl 6)] σ3 (rN fun σ4 => Q (some (sI r3)) σ4))))) ∧ (¬ s0 = 0 → CJ Y d y_MO_no [sR t (.inl 6), sI s0] σ (rI fun r5 σ5 => Q (some (sI r5)) σ5)))) :
    Jd Y (d + 1) y_MO_without 24 [(0, sR t (.inl 6)), (2, sI v2)] [sI s0] σ Q :=
  blk_ok (d := (d + 1)) (y := y_MO_without) (ft := ft_MO) (ct := ct_MO) (tab := tab_MO_without) ⟨tk_MO_without, ft_MO_ok, ct_MO_ok Y⟩ [(24, [0, 2])] 34 24 _ _ σ h
set_option maxRecDepth 20000 in
theorem s_MO_minds_0 (Y : List kd) (d : Nat) (t : Nat) (σ : sS) (Q : Option sv → sS → Prop)
    (h : CJ Y d y_MO_passesValue [sR t (.inl 6), sI 2, sI 1] σ (rN fun σ1 => Q none σ1)) :
    Jd Y (d + 1) y_MO_minds 0 [(0, sR t (.inl 6))] [] σ Q :=
  blk_ok (d := (d + 1)) (y := y_MO_minds) (ft := ft_MO) (ct := ct_MO) (tab := tab_MO_minds) ⟨tk_MO_minds, ft_MO_ok, ct_MO_ok Y⟩ [] 7 0 _ _ σ h
set_option maxRecDepth 20000 in
theorem s_MO_leavesOut_0 (Y : List kd) (d : Nat) (t : Nat) (v1 : Int32) (σ : sS) (Q : Option sv → sS → Prop)
    (h : (vp_in v1 21 ∧ (¬ (10 : Int32) = 0 ∧ CJ Y d y_MO_partAt [sR t (.inl 6), sI ((σ (t + 6) (Int32.toNatClampNeg v1)) / 10)] σ (rI fun r1 σ1 => (vp_in r1 21 ∧ (vp_in r1 21 ∧ (vp_in v1 21 ∧ CJ Y d y_MO_takesOut [sR t (.inl 6), sI v1, sI ((up σ1 (t + 3) (Int32.toNatClampNeg r1) ((σ1 (t + 3) (Int32.toNatClampNeg r1)) - 1)) (t + 5) (Int32.toNatClampNeg v1))] (up σ1 (t + 3) (Int32.toNatClampNeg r1) ((σ1 (t + 3) (Int32.toNatClampNeg r1)) - 1)) (rN fun σ2 => CJ Y d y_MO_measures [sR t (.inl 6)] σ2 (rN fun σ3 => Q none σ3))))))))) :
    Jd Y (d + 1) y_MO_leavesOut 0 [(0, sR t (.inl 6)), (1, sI v1)] [] σ Q :=
  blk_ok (d := (d + 1)) (y := y_MO_leavesOut) (ft := ft_MO) (ct := ct_MO) (tab := tab_MO_leavesOut) ⟨tk_MO_leavesOut, ft_MO_ok, ct_MO_ok Y⟩ [] 27 0 _ _ σ h
set_option maxRecDepth 20000 in
theorem s_MO_forgets_0 (Y : List kd) (d : Nat) (t : Nat) (σ : sS) (Q : Option sv → sS → Prop)
    (h : CJ Y d y_MO_passesValue [sR t (.inl 6), sI 2, sI 0] σ (rN fun σ1 => Q none σ1)) :
    Jd Y (d + 1) y_MO_forgets 0 [(0, sR t (.inl 6))] [] σ Q :=
  blk_ok (d := (d + 1)) (y := y_MO_forgets) (ft := ft_MO) (ct := ct_MO) (tab := tab_MO_forgets) ⟨tk_MO_forgets, ft_MO_ok, ct_MO_ok Y⟩ [] 7 0 _ _ σ h
set_option maxRecDepth 20000 in
theorem s_MO_mend_0 (Y : List kd) (d : Nat) (t : Nat) (v1 : Int32) (σ : sS) (Q : Option sv → sS → Prop)
    (h : ((¬ (iIn v1 0 1) = 0 → CJ Y d y_MO_manyNow [sR t (.inl 6)] σ (rI fun r1 σ1 => Jd Y (d + 1) y_MO_mend 27 [(0, sR t (.inl 6)), (1, sI v1), (2, sI (-9)), (3, sI r1), (4, sI 0)] [] σ1 Q)) ∧ ((iIn v1 0 1) = 0 → CJ Y d y_MO_no [sR t (.inl 6), sI (-2)] σ (rI fun r2 σ2 => Q (some (sI r2)) σ2)))) :
    Jd Y (d + 1) y_MO_mend 0 [(0, sR t (.inl 6)), (1, sI v1)] [] σ Q :=
  blk_ok (d := (d + 1)) (y := y_MO_mend) (ft := ft_MO) (ct := ct_MO) (tab := tab_MO_mend) ⟨tk_MO_mend, ft_MO_ok, ct_MO_ok Y⟩ [(27, [0, 1, 2, 3, 4]), (39, [0, 1, 2, 3, 4, 5]), (82, [0, 1, 2, 3, 4, 5])] 61 0 _ _ σ h
set_option maxRecDepth 20000 in
theorem s_MO_mend_27 (Y : List kd) (d : Nat) (t : Nat) (v1 : Int32) (v2 : Int32) (v3 : Int32) (v4 : Int32) (σ : sS) (Q : Option sv → sS → Prop)
    (h : ((¬ v4 < (σ t 6) → ((¬ v2 < 0 → ((¬ v1 = 0 → Q (some (sI v3)) σ) ∧ (v1 = 0 → Q (some (sI v2)) σ))) ∧ (v2 < 0 → Q (some (sI (-9))) σ))) ∧ (v4 < (σ t 6) → Jd Y (d + 1) y_MO_mend 39 [(0, sR t (.inl 6)), (1, sI v1), (2, sI v2), (3, sI v3), (4, sI v4), (5, sI 0)] [] σ Q))) :
    Jd Y (d + 1) y_MO_mend 27 [(0, sR t (.inl 6)), (1, sI v1), (2, sI v2), (3, sI v3), (4, sI v4)] [] σ Q :=
  blk_ok (d := (d + 1)) (y := y_MO_mend) (ft := ft_MO) (ct := ct_MO) (tab := tab_MO_mend) ⟨tk_MO_mend, ft_MO_ok, ct_MO_ok Y⟩ [(27, [0, 1, 2, 3, 4]), (39, [0, 1, 2, 3, 4, 5]), (82, [0, 1, 2, 3, 4, 5])] 61 27 _ _ σ h
set_option maxRecDepth 20000 in
theorem s_MO_mend_39 (Y : List kd) (d : Nat) (t : Nat) (v1 : Int32) (v2 : Int32) (v3 : Int32) (v4 : Int32) (v5 : Int32) (σ : sS) (Q : Option sv → sS → Prop)
    (h : (((20 : Int32) < v5 → Jd Y (d + 1) y_MO_mend 27 [(0, sR t (.inl 6)), (1, sI v1), (2, sI v2), (3, sI v3), (4, sI (v4 + 1))] [] σ Q) ∧ (¬ (20 : Int32) < v5 → CJ Y d y_MO_faultsWith [sR t (.inl 6), sI v4, sI v5] σ (rI fun r1 σ1 => ((r1 < v3 → (vp_in v4 21 ∧ Jd Y (d + 1) y_MO_mend 82 [(0, sR t (.inl 6)), (1, sI v1), (2, sI ((100 * (σ1 (t + 6) (Int32.toNatClampNeg v4))) + v5)), (3, sI r1), (4, sI v4), (5, sI v5)] [] σ1 Q)) ∧ (¬ r1 < v3 → Jd Y (d + 1) y_MO_mend 82 [(0, sR t (.inl 6)), (1, sI v1), (2, sI v2), (3, sI v3), (4, sI v4), (5, sI v5)] [] σ1 Q)))))) :
    Jd Y (d + 1) y_MO_mend 39 [(0, sR t (.inl 6)), (1, sI v1), (2, sI v2), (3, sI v3), (4, sI v4), (5, sI v5)] [] σ Q :=
  blk_ok (d := (d + 1)) (y := y_MO_mend) (ft := ft_MO) (ct := ct_MO) (tab := tab_MO_mend) ⟨tk_MO_mend, ft_MO_ok, ct_MO_ok Y⟩ [(27, [0, 1, 2, 3, 4]), (39, [0, 1, 2, 3, 4, 5]), (82, [0, 1, 2, 3, 4, 5])] 61 39 _ _ σ h
set_option maxRecDepth 20000 in
theorem s_MO_mend_82 (Y : List kd) (d : Nat) (t : Nat) (v1 : Int32) (v2 : Int32) (v3 : Int32) (v4 : Int32) (v5 : Int32) (σ : sS) (Q : Option sv → sS → Prop)
    (h : Jd Y (d + 1) y_MO_mend 39 [(0, sR t (.inl 6)), (1, sI v1), (2, sI v2), (3, sI v3), (4, sI v4), (5, sI (v5 + 1))] [] σ Q) :
    Jd Y (d + 1) y_MO_mend 82 [(0, sR t (.inl 6)), (1, sI v1), (2, sI v2), (3, sI v3), (4, sI v4), (5, sI v5)] [] σ Q :=
  blk_ok (d := (d + 1)) (y := y_MO_mend) (ft := ft_MO) (ct := ct_MO) (tab := tab_MO_mend) ⟨tk_MO_mend, ft_MO_ok, ct_MO_ok Y⟩ [(27, [0, 1, 2, 3, 4]), (39, [0, 1, 2, 3, 4, 5]), (82, [0, 1, 2, 3, 4, 5])] 61 82 _ _ σ h
set_option maxRecDepth 20000 in
theorem s_MO_faultsWith_0 (Y : List kd) (d : Nat) (t : Nat) (v1 : Int32) (v2 : Int32) (σ : sS) (Q : Option sv → sS → Prop)
    (h : CJ Y d y_MO_minds [sR t (.inl 6)] σ (rN fun σ1 => CJ Y d y_MO_putsAt [sR t (.inl 6), sI v1, sI 0, sI v2] σ1 (rN fun σ2 => CJ Y d y_MO_manyNow [sR t (.inl 6)] σ2 (rI fun r3 σ3 => CJ Y d y_MO_forgets [sR t (.inl 6)] σ3 (rN fun σ4 => Q (some (sI r3)) σ4))))) :
    Jd Y (d + 1) y_MO_faultsWith 0 [(0, sR t (.inl 6)), (1, sI v1), (2, sI v2)] [] σ Q :=
  blk_ok (d := (d + 1)) (y := y_MO_faultsWith) (ft := ft_MO) (ct := ct_MO) (tab := tab_MO_faultsWith) ⟨tk_MO_faultsWith, ft_MO_ok, ct_MO_ok Y⟩ [] 16 0 _ _ σ h
set_option maxRecDepth 20000 in
theorem s_MO_range_0 (Y : List kd) (d : Nat) (t : Nat) (v1 : Int32) (v2 : Int32) (σ : sS) (Q : Option sv → sS → Prop)
    (h : CJ Y d y_MO_partAt [sR t (.inl 6), sI v1] σ (rI fun r1 σ1 => ((¬ r1 < 0 → ((¬ (iIn v2 0 1) = 0 → Jd Y (d + 1) y_MO_range 29 [(0, sR t (.inl 6)), (1, sI v1), (2, sI v2), (3, sI r1)] [sI 0] σ1 Q) ∧ ((iIn v2 0 1) = 0 → Jd Y (d + 1) y_MO_range 29 [(0, sR t (.inl 6)), (1, sI v1), (2, sI v2), (3, sI r1)] [sI (-2)] σ1 Q))) ∧ (r1 < 0 → Jd Y (d + 1) y_MO_range 29 [(0, sR t (.inl 6)), (1, sI v1), (2, sI v2), (3, sI r1)] [sI (-1)] σ1 Q)))) :
    Jd Y (d + 1) y_MO_range 0 [(0, sR t (.inl 6)), (1, sI v1), (2, sI v2)] [] σ Q :=
  blk_ok (d := (d + 1)) (y := y_MO_range) (ft := ft_MO) (ct := ct_MO) (tab := tab_MO_range) ⟨tk_MO_range, ft_MO_ok, ct_MO_ok Y⟩ [(29, [0, 1, 2, 3]), (54, [0, 1, 2, 3, 5, 6, 7]), (93, [0, 1, 2, 3, 7]), (99, [0, 1, 2, 3, 5, 6, 7])] 61 0 _ _ σ h
set_option maxRecDepth 20000 in
theorem s_MO_range_29 (Y : List kd) (d : Nat) (t : Nat) (v1 : Int32) (v2 : Int32) (v3 : Int32) (s0 : Int32) (σ : sS) (Q : Option sv → sS → Prop)
    (h : ((s0 = 0 → Jd Y (d + 1) y_MO_range 54 [(0, sR t (.inl 6)), (1, sI v1), (2, sI v2), (3, sI v3), (5, sI (-9)), (6, sI (-9)), (7, sI 0)] [] σ Q) ∧ (¬ s0 = 0 → CJ Y d y_MO_no [sR t (.inl 6), sI s0] σ (rI fun r1 σ1 => Q (some (sI r1)) σ1)))) :
    Jd Y (d + 1) y_MO_range 29 [(0, sR t (.inl 6)), (1, sI v1), (2, sI v2), (3, sI v3)] [sI s0] σ Q :=
  blk_ok (d := (d + 1)) (y := y_MO_range) (ft := ft_MO) (ct := ct_MO) (tab := tab_MO_range) ⟨tk_MO_range, ft_MO_ok, ct_MO_ok Y⟩ [(29, [0, 1, 2, 3]), (54, [0, 1, 2, 3, 5, 6, 7]), (93, [0, 1, 2, 3, 7]), (99, [0, 1, 2, 3, 5, 6, 7])] 61 29 _ _ σ h
set_option maxRecDepth 20000 in
theorem s_MO_range_54 (Y : List kd) (d : Nat) (t : Nat) (v1 : Int32) (v2 : Int32) (v3 : Int32) (v5 : Int32) (v6 : Int32) (v7 : Int32) (σ : sS) (Q : Option sv → sS → Prop)
    (h : (((99 : Int32) < v7 → ((¬ v2 = 0 → Q (some (sI v6)) σ) ∧ (v2 = 0 → Q (some (sI v5)) σ))) ∧ (¬ (99 : Int32) < v7 → CJ Y d y_MO_faultsWith [sR t (.inl 6), sI v3, sI v7] σ (rI fun r1 σ1 => CJ Y d y_MO_isAnyBelow [sR t (.inl 6), sI 0, sI v1] σ1 (rI fun r2 σ2 => ((r2 = 0 → ((¬ v5 < 0 → Jd Y (d + 1) y_MO_range 93 [(0, sR t (.inl 6)), (1, sI v1), (2, sI v2), (3, sI v3), (7, sI v7)] [sI v5] σ2 Q) ∧ (v5 < 0 → Jd Y (d + 1) y_MO_range 93 [(0, sR t (.inl 6)), (1, sI v1), (2, sI v2), (3, sI v3), (7, sI v7)] [sI v7] σ2 Q))) ∧ (¬ r2 = 0 → Jd Y (d + 1) y_MO_range 99 [(0, sR t (.inl 6)), (1, sI v1), (2, sI v2), (3, sI v3), (5, sI v5), (6, sI v6), (7, sI v7)] [] σ2 Q))))))) :
    Jd Y (d + 1) y_MO_range 54 [(0, sR t (.inl 6)), (1, sI v1), (2, sI v2), (3, sI v3), (5, sI v5), (6, sI v6), (7, sI v7)] [] σ Q :=
  blk_ok (d := (d + 1)) (y := y_MO_range) (ft := ft_MO) (ct := ct_MO) (tab := tab_MO_range) ⟨tk_MO_range, ft_MO_ok, ct_MO_ok Y⟩ [(29, [0, 1, 2, 3]), (54, [0, 1, 2, 3, 5, 6, 7]), (93, [0, 1, 2, 3, 7]), (99, [0, 1, 2, 3, 5, 6, 7])] 61 54 _ _ σ h
set_option maxRecDepth 20000 in
theorem s_MO_range_93 (Y : List kd) (d : Nat) (t : Nat) (v1 : Int32) (v2 : Int32) (v3 : Int32) (v7 : Int32) (s0 : Int32) (σ : sS) (Q : Option sv → sS → Prop)
    (h : Jd Y (d + 1) y_MO_range 99 [(0, sR t (.inl 6)), (1, sI v1), (2, sI v2), (3, sI v3), (5, sI s0), (6, sI v7), (7, sI v7)] [] σ Q) :
    Jd Y (d + 1) y_MO_range 93 [(0, sR t (.inl 6)), (1, sI v1), (2, sI v2), (3, sI v3), (7, sI v7)] [sI s0] σ Q :=
  blk_ok (d := (d + 1)) (y := y_MO_range) (ft := ft_MO) (ct := ct_MO) (tab := tab_MO_range) ⟨tk_MO_range, ft_MO_ok, ct_MO_ok Y⟩ [(29, [0, 1, 2, 3]), (54, [0, 1, 2, 3, 5, 6, 7]), (93, [0, 1, 2, 3, 7]), (99, [0, 1, 2, 3, 5, 6, 7])] 61 93 _ _ σ h
set_option maxRecDepth 20000 in
theorem s_MO_range_99 (Y : List kd) (d : Nat) (t : Nat) (v1 : Int32) (v2 : Int32) (v3 : Int32) (v5 : Int32) (v6 : Int32) (v7 : Int32) (σ : sS) (Q : Option sv → sS → Prop)
    (h : Jd Y (d + 1) y_MO_range 54 [(0, sR t (.inl 6)), (1, sI v1), (2, sI v2), (3, sI v3), (5, sI v5), (6, sI v6), (7, sI (v7 + 1))] [] σ Q) :
    Jd Y (d + 1) y_MO_range 99 [(0, sR t (.inl 6)), (1, sI v1), (2, sI v2), (3, sI v3), (5, sI v5), (6, sI v6), (7, sI v7)] [] σ Q :=
  blk_ok (d := (d + 1)) (y := y_MO_range) (ft := ft_MO) (ct := ct_MO) (tab := tab_MO_range) ⟨tk_MO_range, ft_MO_ok, ct_MO_ok Y⟩ [(29, [0, 1, 2, 3]), (54, [0, 1, 2, 3, 5, 6, 7]), (93, [0, 1, 2, 3, 7]), (99, [0, 1, 2, 3, 5, 6, 7])] 61 99 _ _ σ h
set_option maxRecDepth 20000 in
theorem s_MO_loss_0 (Y : List kd) (d : Nat) (t : Nat) (v1 : Int32) (v2 : Int32) (σ : sS) (Q : Option sv → sS → Prop)
    (h : ((¬ (iBd v1 2 20) = 0 → Jd Y (d + 1) y_MO_loss 24 [(0, sR t (.inl 6)), (1, sI v1), (2, sI v2), (3, sI (iBd v1 2 20))] [] σ Q) ∧ ((iBd v1 2 20) = 0 → ((¬ (iIn v2 0 1) = 0 → Jd Y (d + 1) y_MO_loss 24 [(0, sR t (.inl 6)), (1, sI v1), (2, sI v2), (3, sI (iBd v1 2 20))] [] σ Q) ∧ ((iIn v2 0 1) = 0 → Jd Y (d + 1) y_MO_loss 24 [(0, sR t (.inl 6)), (1, sI v1), (2, sI v2), (3, sI (-2))] [] σ Q))))) :
    Jd Y (d + 1) y_MO_loss 0 [(0, sR t (.inl 6)), (1, sI v1), (2, sI v2)] [] σ Q :=
  blk_ok (d := (d + 1)) (y := y_MO_loss) (ft := ft_MO) (ct := ct_MO) (tab := tab_MO_loss) ⟨tk_MO_loss, ft_MO_ok, ct_MO_ok Y⟩ [(24, [0, 1, 2, 3]), (51, [0, 1, 2, 4, 5, 7, 9]), (74, [0, 1, 2, 4, 5, 7, 9]), (89, [0, 1, 2, 4, 5, 7, 9, 10, 12]), (116, [0, 1, 2, 4, 5, 7, 9, 12]), (150, [0, 1, 2, 4, 7, 9])] 94 0 _ _ σ h
set_option maxRecDepth 20000 in
theorem s_MO_loss_24 (Y : List kd) (d : Nat) (t : Nat) (v1 : Int32) (v2 : Int32) (v3 : Int32) (σ : sS) (Q : Option sv → sS → Prop)
    (h : ((v3 = 0 → CJ Y d y_MO_numbersUpTo [sR t (.inl 6), sI 6] σ (rI fun r1 σ1 => Jd Y (d + 1) y_MO_loss 51 [(0, sR t (.inl 6)), (1, sI v1), (2, sI v2), (4, sI r1), (5, sJ 0), (7, sJ 1), (9, sI 0)] [] σ1 Q)) ∧ (¬ v3 = 0 → CJ Y d y_MO_lowestOf [sR t (.inl 6), sI v3] σ (rJ fun r2 σ2 => Q (some (sJ r2)) σ2)))) :
    Jd Y (d + 1) y_MO_loss 24 [(0, sR t (.inl 6)), (1, sI v1), (2, sI v2), (3, sI v3)] [] σ Q :=
  blk_ok (d := (d + 1)) (y := y_MO_loss) (ft := ft_MO) (ct := ct_MO) (tab := tab_MO_loss) ⟨tk_MO_loss, ft_MO_ok, ct_MO_ok Y⟩ [(24, [0, 1, 2, 3]), (51, [0, 1, 2, 4, 5, 7, 9]), (74, [0, 1, 2, 4, 5, 7, 9]), (89, [0, 1, 2, 4, 5, 7, 9, 10, 12]), (116, [0, 1, 2, 4, 5, 7, 9, 12]), (150, [0, 1, 2, 4, 7, 9])] 94 24 _ _ σ h
set_option maxRecDepth 20000 in
theorem s_MO_loss_51 (Y : List kd) (d : Nat) (t : Nat) (v1 : Int32) (v2 : Int32) (v4 : Int32) (v5 : Int64) (v7 : Int64) (v9 : Int32) (σ : sS) (Q : Option sv → sS → Prop)
    (h : ((¬ v9 < v4 → Jd Y (d + 1) y_MO_loss 74 [(0, sR t (.inl 6)), (1, sI v1), (2, sI v2), (4, sI v4), (5, sJ v5), (7, sJ v7), (9, sI 0)] [] σ Q) ∧ (v9 < v4 → Jd Y (d + 1) y_MO_loss 51 [(0, sR t (.inl 6)), (1, sI v1), (2, sI v2), (4, sI v4), (5, sJ v5), (7, sJ (v7 * (Int32.toInt64 v1))), (9, sI (v9 + 1))] [] σ Q))) :
    Jd Y (d + 1) y_MO_loss 51 [(0, sR t (.inl 6)), (1, sI v1), (2, sI v2), (4, sI v4), (5, sJ v5), (7, sJ v7), (9, sI v9)] [] σ Q :=
  blk_ok (d := (d + 1)) (y := y_MO_loss) (ft := ft_MO) (ct := ct_MO) (tab := tab_MO_loss) ⟨tk_MO_loss, ft_MO_ok, ct_MO_ok Y⟩ [(24, [0, 1, 2, 3]), (51, [0, 1, 2, 4, 5, 7, 9]), (74, [0, 1, 2, 4, 5, 7, 9]), (89, [0, 1, 2, 4, 5, 7, 9, 10, 12]), (116, [0, 1, 2, 4, 5, 7, 9, 12]), (150, [0, 1, 2, 4, 7, 9])] 94 51 _ _ σ h
set_option maxRecDepth 20000 in
theorem s_MO_loss_74 (Y : List kd) (d : Nat) (t : Nat) (v1 : Int32) (v2 : Int32) (v4 : Int32) (v5 : Int64) (v7 : Int64) (v9 : Int32) (σ : sS) (Q : Option sv → sS → Prop)
    (h : ((¬ v9 < (1 <<< (v4 &&& 31)) → CJ Y d y_MO_partOf [sJ v5, sJ v7, sI v2] σ (rJ fun r1 σ1 => Q (some (sJ r1)) σ1)) ∧ (v9 < (1 <<< (v4 &&& 31)) → Jd Y (d + 1) y_MO_loss 89 [(0, sR t (.inl 6)), (1, sI v1), (2, sI v2), (4, sI v4), (5, sJ v5), (7, sJ v7), (9, sI v9), (10, sJ 1), (12, sI 0)] [] σ Q))) :
    Jd Y (d + 1) y_MO_loss 74 [(0, sR t (.inl 6)), (1, sI v1), (2, sI v2), (4, sI v4), (5, sJ v5), (7, sJ v7), (9, sI v9)] [] σ Q :=
  blk_ok (d := (d + 1)) (y := y_MO_loss) (ft := ft_MO) (ct := ct_MO) (tab := tab_MO_loss) ⟨tk_MO_loss, ft_MO_ok, ct_MO_ok Y⟩ [(24, [0, 1, 2, 3]), (51, [0, 1, 2, 4, 5, 7, 9]), (74, [0, 1, 2, 4, 5, 7, 9]), (89, [0, 1, 2, 4, 5, 7, 9, 10, 12]), (116, [0, 1, 2, 4, 5, 7, 9, 12]), (150, [0, 1, 2, 4, 7, 9])] 94 74 _ _ σ h
set_option maxRecDepth 20000 in
theorem s_MO_loss_89 (Y : List kd) (d : Nat) (t : Nat) (v1 : Int32) (v2 : Int32) (v4 : Int32) (v5 : Int64) (v7 : Int64) (v9 : Int32) (v10 : Int64) (v12 : Int32) (σ : sS) (Q : Option sv → sS → Prop)
    (h : ((¬ v12 < v4 → CJ Y d y_MO_minds [sR t (.inl 6)] σ (rN fun σ1 => CJ Y d y_MO_losesSome [sR t (.inl 6), sI v9] σ1 (rN fun σ2 => CJ Y d y_MO_manyNow [sR t (.inl 6)] σ2 (rI fun r3 σ3 => ((¬ r3 = 0 → Jd Y (d + 1) y_MO_loss 150 [(0, sR t (.inl 6)), (1, sI v1), (2, sI v2), (4, sI v4), (7, sJ v7), (9, sI v9)] [sJ 0, sJ v5] σ3 Q) ∧ (r3 = 0 → Jd Y (d + 1) y_MO_loss 150 [(0, sR t (.inl 6)), (1, sI v1), (2, sI v2), (4, sI v4), (7, sJ v7), (9, sI v9)] [sJ v10, sJ v5] σ3 Q)))))) ∧ (v12 < v4 → (((iHas v9 v12) = 0 → Jd Y (d + 1) y_MO_loss 116 [(0, sR t (.inl 6)), (1, sI v1), (2, sI v2), (4, sI v4), (5, sJ v5), (7, sJ v7), (9, sI v9), (12, sI v12)] [sJ (Int32.toInt64 (v1 - 1)), sJ v10] σ Q) ∧ (¬ (iHas v9 v12) = 0 → Jd Y (d + 1) y_MO_loss 116 [(0, sR t (.inl 6)), (1, sI v1), (2, sI v2), (4, sI v4), (5, sJ v5), (7, sJ v7), (9, sI v9), (12, sI v12)] [sJ 1, sJ v10] σ Q))))) :
    Jd Y (d + 1) y_MO_loss 89 [(0, sR t (.inl 6)), (1, sI v1), (2, sI v2), (4, sI v4), (5, sJ v5), (7, sJ v7), (9, sI v9), (10, sJ v10), (12, sI v12)] [] σ Q :=
  blk_ok (d := (d + 1)) (y := y_MO_loss) (ft := ft_MO) (ct := ct_MO) (tab := tab_MO_loss) ⟨tk_MO_loss, ft_MO_ok, ct_MO_ok Y⟩ [(24, [0, 1, 2, 3]), (51, [0, 1, 2, 4, 5, 7, 9]), (74, [0, 1, 2, 4, 5, 7, 9]), (89, [0, 1, 2, 4, 5, 7, 9, 10, 12]), (116, [0, 1, 2, 4, 5, 7, 9, 12]), (150, [0, 1, 2, 4, 7, 9])] 94 89 _ _ σ h
set_option maxRecDepth 20000 in
theorem s_MO_loss_116 (Y : List kd) (d : Nat) (t : Nat) (v1 : Int32) (v2 : Int32) (v4 : Int32) (v5 : Int64) (v7 : Int64) (v9 : Int32) (v12 : Int32) (s0 : Int64) (s1 : Int64) (σ : sS) (Q : Option sv → sS → Prop)
    (h : Jd Y (d + 1) y_MO_loss 89 [(0, sR t (.inl 6)), (1, sI v1), (2, sI v2), (4, sI v4), (5, sJ v5), (7, sJ v7), (9, sI v9), (10, sJ (s1 * s0)), (12, sI (v12 + 1))] [] σ Q) :
    Jd Y (d + 1) y_MO_loss 116 [(0, sR t (.inl 6)), (1, sI v1), (2, sI v2), (4, sI v4), (5, sJ v5), (7, sJ v7), (9, sI v9), (12, sI v12)] [sJ s0, sJ s1] σ Q :=
  blk_ok (d := (d + 1)) (y := y_MO_loss) (ft := ft_MO) (ct := ct_MO) (tab := tab_MO_loss) ⟨tk_MO_loss, ft_MO_ok, ct_MO_ok Y⟩ [(24, [0, 1, 2, 3]), (51, [0, 1, 2, 4, 5, 7, 9]), (74, [0, 1, 2, 4, 5, 7, 9]), (89, [0, 1, 2, 4, 5, 7, 9, 10, 12]), (116, [0, 1, 2, 4, 5, 7, 9, 12]), (150, [0, 1, 2, 4, 7, 9])] 94 116 _ _ σ h
set_option maxRecDepth 20000 in
theorem s_MO_loss_150 (Y : List kd) (d : Nat) (t : Nat) (v1 : Int32) (v2 : Int32) (v4 : Int32) (v7 : Int64) (v9 : Int32) (s0 : Int64) (s1 : Int64) (σ : sS) (Q : Option sv → sS → Prop)
    (h : CJ Y d y_MO_forgets [sR t (.inl 6)] σ (rN fun σ1 => Jd Y (d + 1) y_MO_loss 74 [(0, sR t (.inl 6)), (1, sI v1), (2, sI v2), (4, sI v4), (5, sJ (s1 + s0)), (7, sJ v7), (9, sI (v9 + 1))] [] σ1 Q)) :
    Jd Y (d + 1) y_MO_loss 150 [(0, sR t (.inl 6)), (1, sI v1), (2, sI v2), (4, sI v4), (7, sJ v7), (9, sI v9)] [sJ s0, sJ s1] σ Q :=
  blk_ok (d := (d + 1)) (y := y_MO_loss) (ft := ft_MO) (ct := ct_MO) (tab := tab_MO_loss) ⟨tk_MO_loss, ft_MO_ok, ct_MO_ok Y⟩ [(24, [0, 1, 2, 3]), (51, [0, 1, 2, 4, 5, 7, 9]), (74, [0, 1, 2, 4, 5, 7, 9]), (89, [0, 1, 2, 4, 5, 7, 9, 10, 12]), (116, [0, 1, 2, 4, 5, 7, 9, 12]), (150, [0, 1, 2, 4, 7, 9])] 94 150 _ _ σ h
set_option maxRecDepth 20000 in
theorem s_MO_lowestOf_0 (Y : List kd) (d : Nat) (t : Nat) (v1 : Int32) (σ : sS) (Q : Option sv → sS → Prop)
    (h : (vp_in (-v1) 7 ∧ (vp_in (-v1) 7 ∧ Q (some (sJ (4000000000000000000 - (Int32.toInt64 v1)))) (up σ (t + 1) (Int32.toNatClampNeg (-v1)) ((σ (t + 1) (Int32.toNatClampNeg (-v1))) + 1))))) :
    Jd Y d y_MO_lowestOf 0 [(0, sR t (.inl 6)), (1, sI v1)] [] σ Q :=
  blk_ok (d := d) (y := y_MO_lowestOf) (ft := ft_MO) (ct := ct_MO) (tab := tab_MO_lowestOf) ⟨tk_MO_lowestOf, ft_MO_ok, ct_MO_ok Y⟩ [] 16 0 _ _ σ h
set_option maxRecDepth 20000 in
theorem s_MO_numbersUpTo_0 (Y : List kd) (d : Nat) (t : Nat) (v1 : Int32) (σ : sS) (Q : Option sv → sS → Prop)
    (h : Jd Y d y_MO_numbersUpTo 4 [(0, sR t (.inl 6)), (1, sI v1), (2, sI 0), (3, sI 0)] [] σ Q) :
    Jd Y d y_MO_numbersUpTo 0 [(0, sR t (.inl 6)), (1, sI v1)] [] σ Q :=
  blk_ok (d := d) (y := y_MO_numbersUpTo) (ft := ft_MO) (ct := ct_MO) (tab := tab_MO_numbersUpTo) ⟨tk_MO_numbersUpTo, ft_MO_ok, ct_MO_ok Y⟩ [(4, [0, 1, 2, 3]), (27, [0, 1, 3])] 30 0 _ _ σ h
set_option maxRecDepth 20000 in
theorem s_MO_numbersUpTo_4 (Y : List kd) (d : Nat) (t : Nat) (v1 : Int32) (v2 : Int32) (v3 : Int32) (σ : sS) (Q : Option sv → sS → Prop)
    (h : ((¬ v3 < (σ t 6) → ((¬ v2 < v1 → Q (some (sI v1)) σ) ∧ (v2 < v1 → Q (some (sI v2)) σ))) ∧ (v3 < (σ t 6) → (vp_in v3 21 ∧ ((¬ (σ (t + 2) (Int32.toNatClampNeg v3)) = 0 → Jd Y d y_MO_numbersUpTo 27 [(0, sR t (.inl 6)), (1, sI v1), (3, sI v3)] [sI 0, sI v2] σ Q) ∧ ((σ (t + 2) (Int32.toNatClampNeg v3)) = 0 → Jd Y d y_MO_numbersUpTo 27 [(0, sR t (.inl 6)), (1, sI v1), (3, sI v3)] [sI 1, sI v2] σ Q)))))) :
    Jd Y d y_MO_numbersUpTo 4 [(0, sR t (.inl 6)), (1, sI v1), (2, sI v2), (3, sI v3)] [] σ Q :=
  blk_ok (d := d) (y := y_MO_numbersUpTo) (ft := ft_MO) (ct := ct_MO) (tab := tab_MO_numbersUpTo) ⟨tk_MO_numbersUpTo, ft_MO_ok, ct_MO_ok Y⟩ [(4, [0, 1, 2, 3]), (27, [0, 1, 3])] 30 4 _ _ σ h
set_option maxRecDepth 20000 in
theorem s_MO_numbersUpTo_27 (Y : List kd) (d : Nat) (t : Nat) (v1 : Int32) (v3 : Int32) (s0 : Int32) (s1 : Int32) (σ : sS) (Q : Option sv → sS → Prop)
    (h : Jd Y d y_MO_numbersUpTo 4 [(0, sR t (.inl 6)), (1, sI v1), (2, sI (s1 + s0)), (3, sI (v3 + 1))] [] σ Q) :
    Jd Y d y_MO_numbersUpTo 27 [(0, sR t (.inl 6)), (1, sI v1), (3, sI v3)] [sI s0, sI s1] σ Q :=
  blk_ok (d := d) (y := y_MO_numbersUpTo) (ft := ft_MO) (ct := ct_MO) (tab := tab_MO_numbersUpTo) ⟨tk_MO_numbersUpTo, ft_MO_ok, ct_MO_ok Y⟩ [(4, [0, 1, 2, 3]), (27, [0, 1, 3])] 30 27 _ _ σ h
set_option maxRecDepth 20000 in
theorem s_MO_losesSome_0 (Y : List kd) (d : Nat) (t : Nat) (v1 : Int32) (σ : sS) (Q : Option sv → sS → Prop)
    (h : Jd Y (d + 1) y_MO_losesSome 4 [(0, sR t (.inl 6)), (1, sI v1), (2, sI 0), (3, sI 0)] [] σ Q) :
    Jd Y (d + 1) y_MO_losesSome 0 [(0, sR t (.inl 6)), (1, sI v1)] [] σ Q :=
  blk_ok (d := (d + 1)) (y := y_MO_losesSome) (ft := ft_MO) (ct := ct_MO) (tab := tab_MO_losesSome) ⟨tk_MO_losesSome, ft_MO_ok, ct_MO_ok Y⟩ [(4, [0, 1, 2, 3]), (52, [0, 1, 2, 3]), (55, [0, 1, 2, 3])] 39 0 _ _ σ h
set_option maxRecDepth 20000 in
theorem s_MO_losesSome_4 (Y : List kd) (d : Nat) (t : Nat) (v1 : Int32) (v2 : Int32) (v3 : Int32) (σ : sS) (Q : Option sv → sS → Prop)
    (h : ((¬ v3 < (σ t 6) → CJ Y d y_MO_measures [sR t (.inl 6)] σ (rN fun σ1 => Q none σ1)) ∧ (v3 < (σ t 6) → (vp_in v3 21 ∧ (((σ (t + 2) (Int32.toNatClampNeg v3)) = 0 → ((¬ v2 < 6 → Jd Y (d + 1) y_MO_losesSome 52 [(0, sR t (.inl 6)), (1, sI v1), (2, sI v2), (3, sI v3)] [] σ Q) ∧ (v2 < 6 → (((iHas v1 v2) = 0 → Jd Y (d + 1) y_MO_losesSome 52 [(0, sR t (.inl 6)), (1, sI v1), (2, sI v2), (3, sI v3)] [] σ Q) ∧ (¬ (iHas v1 v2) = 0 → (vp_in v3 21 ∧ (vp_in v3 21 ∧ Jd Y (d + 1) y_MO_losesSome 52 [(0, sR t (.inl 6)), (1, sI v1), (2, sI v2), (3, sI v3)] [] (up (up σ (t + 2) (Int32.toNatClampNeg v3) 1) (t + 3) (Int32.toNatClampNeg v3) 0) Q))))))) ∧ (¬ (σ (t + 2) (Int32.toNatClampNeg v3)) = 0 → Jd Y (d + 1) y_MO_losesSome 55 [(0, sR t (.inl 6)), (1, sI v1), (2, sI v2), (3, sI v3)] [] σ Q)))))) :
    Jd Y (d + 1) y_MO_losesSome 4 [(0, sR t (.inl 6)), (1, sI v1), (2, sI v2), (3, sI v3)] [] σ Q :=
  blk_ok (d := (d + 1)) (y := y_MO_losesSome) (ft := ft_MO) (ct := ct_MO) (tab := tab_MO_losesSome) ⟨tk_MO_losesSome, ft_MO_ok, ct_MO_ok Y⟩ [(4, [0, 1, 2, 3]), (52, [0, 1, 2, 3]), (55, [0, 1, 2, 3])] 39 4 _ _ σ h
set_option maxRecDepth 20000 in
theorem s_MO_losesSome_52 (Y : List kd) (d : Nat) (t : Nat) (v1 : Int32) (v2 : Int32) (v3 : Int32) (σ : sS) (Q : Option sv → sS → Prop)
    (h : Jd Y (d + 1) y_MO_losesSome 55 [(0, sR t (.inl 6)), (1, sI v1), (2, sI (v2 + 1)), (3, sI v3)] [] σ Q) :
    Jd Y (d + 1) y_MO_losesSome 52 [(0, sR t (.inl 6)), (1, sI v1), (2, sI v2), (3, sI v3)] [] σ Q :=
  blk_ok (d := (d + 1)) (y := y_MO_losesSome) (ft := ft_MO) (ct := ct_MO) (tab := tab_MO_losesSome) ⟨tk_MO_losesSome, ft_MO_ok, ct_MO_ok Y⟩ [(4, [0, 1, 2, 3]), (52, [0, 1, 2, 3]), (55, [0, 1, 2, 3])] 39 52 _ _ σ h
set_option maxRecDepth 20000 in
theorem s_MO_losesSome_55 (Y : List kd) (d : Nat) (t : Nat) (v1 : Int32) (v2 : Int32) (v3 : Int32) (σ : sS) (Q : Option sv → sS → Prop)
    (h : Jd Y (d + 1) y_MO_losesSome 4 [(0, sR t (.inl 6)), (1, sI v1), (2, sI v2), (3, sI (v3 + 1))] [] σ Q) :
    Jd Y (d + 1) y_MO_losesSome 55 [(0, sR t (.inl 6)), (1, sI v1), (2, sI v2), (3, sI v3)] [] σ Q :=
  blk_ok (d := (d + 1)) (y := y_MO_losesSome) (ft := ft_MO) (ct := ct_MO) (tab := tab_MO_losesSome) ⟨tk_MO_losesSome, ft_MO_ok, ct_MO_ok Y⟩ [(4, [0, 1, 2, 3]), (52, [0, 1, 2, 3]), (55, [0, 1, 2, 3])] 39 55 _ _ σ h
set_option maxRecDepth 20000 in
theorem s_MO_partOf_0 (Y : List kd) (d : Nat) (v0 : Int64) (v2 : Int64) (v4 : Int32) (σ : sS) (Q : Option sv → sS → Prop)
    (h : ((¬ v4 = 0 → Jd Y (d + 1) y_MO_partOf 10 [(0, sJ v0), (2, sJ v2)] [sJ v2] σ Q) ∧ (v4 = 0 → Jd Y (d + 1) y_MO_partOf 10 [(0, sJ v0), (2, sJ v2)] [sJ v0] σ Q))) :
    Jd Y (d + 1) y_MO_partOf 0 [(0, sJ v0), (2, sJ v2), (4, sI v4)] [] σ Q :=
  blk_ok (d := (d + 1)) (y := y_MO_partOf) (ft := ft_MO) (ct := ct_MO) (tab := tab_MO_partOf) ⟨tk_MO_partOf, ft_MO_ok, ct_MO_ok Y⟩ [(10, [0, 2])] 12 0 _ _ σ h
set_option maxRecDepth 20000 in
theorem s_MO_partOf_10 (Y : List kd) (d : Nat) (v0 : Int64) (v2 : Int64) (s0 : Int64) (σ : sS) (Q : Option sv → sS → Prop)
    (h : CJ Y d y_MO_divisor [sJ v0, sJ v2] σ (rJ fun r1 σ1 => (¬ r1 = 0 ∧ Q (some (sJ (s0 / r1))) σ1))) :
    Jd Y (d + 1) y_MO_partOf 10 [(0, sJ v0), (2, sJ v2)] [sJ s0] σ Q :=
  blk_ok (d := (d + 1)) (y := y_MO_partOf) (ft := ft_MO) (ct := ct_MO) (tab := tab_MO_partOf) ⟨tk_MO_partOf, ft_MO_ok, ct_MO_ok Y⟩ [(10, [0, 2])] 12 10 _ _ σ h
set_option maxRecDepth 20000 in
theorem s_MO_divisor_0 (Y : List kd) (d : Nat) (v0 : Int64) (v2 : Int64) (σ : sS) (Q : Option sv → sS → Prop)
    (h : Jd Y d y_MO_divisor 6 [(4, sJ v0), (6, sJ v2)] [] σ Q) :
    Jd Y d y_MO_divisor 0 [(0, sJ v0), (2, sJ v2)] [] σ Q :=
  blk_ok (d := d) (y := y_MO_divisor) (ft := ft_MO) (ct := ct_MO) (tab := tab_MO_divisor) ⟨tk_MO_divisor, ft_MO_ok, ct_MO_ok Y⟩ [(6, [4, 6])] 21 0 _ _ σ h
set_option maxRecDepth 20000 in
theorem s_MO_divisor_6 (Y : List kd) (d : Nat) (v4 : Int64) (v6 : Int64) (σ : sS) (Q : Option sv → sS → Prop)
    (h : (((lg_cmp v6 0) = 0 → Q (some (sJ v4)) σ) ∧ (¬ (lg_cmp v6 0) = 0 → (¬ v6 = 0 ∧ Jd Y d y_MO_divisor 6 [(4, sJ v6), (6, sJ (v4 - v4 / v6 * v6))] [] σ Q)))) :
    Jd Y d y_MO_divisor 6 [(4, sJ v4), (6, sJ v6)] [] σ Q :=
  blk_ok (d := d) (y := y_MO_divisor) (ft := ft_MO) (ct := ct_MO) (tab := tab_MO_divisor) ⟨tk_MO_divisor, ft_MO_ok, ct_MO_ok Y⟩ [(6, [4, 6])] 21 6 _ _ σ h
set_option maxRecDepth 20000 in
theorem s_MO_mean_0 (Y : List kd) (d : Nat) (t : Nat) (v1 : Int32) (σ : sS) (Q : Option sv → sS → Prop)
    (h : ((¬ (iIn v1 0 1) = 0 → CJ Y d y_MO_manyNow [sR t (.inl 6)] σ (rI fun r1 σ1 => CJ Y d y_MO_partOf [sJ (Int32.toInt64 r1), sJ (Int32.toInt64 (σ1 t 6)), sI v1] σ1 (rJ fun r2 σ2 => Q (some (sJ r2)) σ2))) ∧ ((iIn v1 0 1) = 0 → CJ Y d y_MO_lowestOf [sR t (.inl 6), sI (-2)] σ (rJ fun r3 σ3 => Q (some (sJ r3)) σ3)))) :
    Jd Y (d + 1) y_MO_mean 0 [(0, sR t (.inl 6)), (1, sI v1)] [] σ Q :=
  blk_ok (d := (d + 1)) (y := y_MO_mean) (ft := ft_MO) (ct := ct_MO) (tab := tab_MO_mean) ⟨tk_MO_mean, ft_MO_ok, ct_MO_ok Y⟩ [] 20 0 _ _ σ h
set_option maxRecDepth 20000 in
theorem s_MO_which_0 (Y : List kd) (d : Nat) (t : Nat) (v1 : Int32) (σ : sS) (Q : Option sv → sS → Prop)
    (h : CJ Y d y_MO_partAt [sR t (.inl 6), sI v1] σ (rI fun r1 σ1 => ((¬ r1 < 0 → Jd Y (d + 1) y_MO_which 21 [(0, sR t (.inl 6)), (2, sI r1), (3, sI 0), (4, sI 0)] [] σ1 Q) ∧ (r1 < 0 → CJ Y d y_MO_no [sR t (.inl 6), sI (-1)] σ1 (rI fun r2 σ2 => Q (some (sI r2)) σ2))))) :
    Jd Y (d + 1) y_MO_which 0 [(0, sR t (.inl 6)), (1, sI v1)] [] σ Q :=
  blk_ok (d := (d + 1)) (y := y_MO_which) (ft := ft_MO) (ct := ct_MO) (tab := tab_MO_which) ⟨tk_MO_which, ft_MO_ok, ct_MO_ok Y⟩ [(21, [0, 2, 3, 4]), (52, [0, 2, 4])] 39 0 _ _ σ h
set_option maxRecDepth 20000 in
theorem s_MO_which_21 (Y : List kd) (d : Nat) (t : Nat) (v2 : Int32) (v3 : Int32) (v4 : Int32) (σ : sS) (Q : Option sv → sS → Prop)
    (h : ((¬ v4 < 16 → Q (some (sI v3)) σ) ∧ (v4 < 16 → CJ Y d y_MO_faultsWith [sR t (.inl 6), sI v2, sI v4] σ (rI fun r1 σ1 => CJ Y d y_MO_isCodedSo [sR t (.inl 6)] σ1 (rI fun r2 σ2 => ((r2 = 0 → Jd Y (d + 1) y_MO_which 52 [(0, sR t (.inl 6)), (2, sI v2), (4, sI v4)] [sI 0, sI v3] σ2 Q) ∧ (¬ r2 = 0 → Jd Y (d + 1) y_MO_which 52 [(0, sR t (.inl 6)), (2, sI v2), (4, sI v4)] [sI (1 <<< (v4 &&& 31)), sI v3] σ2 Q))))))) :
    Jd Y (d + 1) y_MO_which 21 [(0, sR t (.inl 6)), (2, sI v2), (3, sI v3), (4, sI v4)] [] σ Q :=
  blk_ok (d := (d + 1)) (y := y_MO_which) (ft := ft_MO) (ct := ct_MO) (tab := tab_MO_which) ⟨tk_MO_which, ft_MO_ok, ct_MO_ok Y⟩ [(21, [0, 2, 3, 4]), (52, [0, 2, 4])] 39 21 _ _ σ h
set_option maxRecDepth 20000 in
theorem s_MO_which_52 (Y : List kd) (d : Nat) (t : Nat) (v2 : Int32) (v4 : Int32) (s0 : Int32) (s1 : Int32) (σ : sS) (Q : Option sv → sS → Prop)
    (h : Jd Y (d + 1) y_MO_which 21 [(0, sR t (.inl 6)), (2, sI v2), (3, sI (s1 ||| s0)), (4, sI (v4 + 1))] [] σ Q) :
    Jd Y (d + 1) y_MO_which 52 [(0, sR t (.inl 6)), (2, sI v2), (4, sI v4)] [sI s0, sI s1] σ Q :=
  blk_ok (d := (d + 1)) (y := y_MO_which) (ft := ft_MO) (ct := ct_MO) (tab := tab_MO_which) ⟨tk_MO_which, ft_MO_ok, ct_MO_ok Y⟩ [(21, [0, 2, 3, 4]), (52, [0, 2, 4])] 39 52 _ _ σ h
set_option maxRecDepth 20000 in
theorem s_MO_isCodedSo_0 (Y : List kd) (d : Nat) (t : Nat) (σ : sS) (Q : Option sv → sS → Prop)
    (h : Jd Y d y_MO_isCodedSo 2 [(0, sR t (.inl 6)), (1, sI 0)] [] σ Q) :
    Jd Y d y_MO_isCodedSo 0 [(0, sR t (.inl 6))] [] σ Q :=
  blk_ok (d := d) (y := y_MO_isCodedSo) (ft := ft_MO) (ct := ct_MO) (tab := tab_MO_isCodedSo) ⟨tk_MO_isCodedSo, ft_MO_ok, ct_MO_ok Y⟩ [(2, [0, 1])] 27 0 _ _ σ h
set_option maxRecDepth 20000 in
theorem s_MO_isCodedSo_2 (Y : List kd) (d : Nat) (t : Nat) (v1 : Int32) (σ : sS) (Q : Option sv → sS → Prop)
    (h : ((¬ v1 < (σ t 52) → (((1 : Int32) = 0 ∨ (1 : Int32) = 1) ∧ Q (some (sI 1)) σ)) ∧ (v1 < (σ t 52) → ((¬ v1 < (σ t 33) → (((0 : Int32) = 0 ∨ (0 : Int32) = 1) ∧ Q (some (sI 0)) σ)) ∧ (v1 < (σ t 33) → (vp_in v1 16384 ∧ (vp_in v1 32 ∧ (((σ (t + 21) (Int32.toNatClampNeg v1)) = (σ (t + 36) (Int32.toNatClampNeg v1)) → Jd Y d y_MO_isCodedSo 2 [(0, sR t (.inl 6)), (1, sI (v1 + 1))] [] σ Q) ∧ (¬ (σ (t + 21) (Int32.toNatClampNeg v1)) = (σ (t + 36) (Int32.toNatClampNeg v1)) → (((0 : Int32) = 0 ∨ (0 : Int32) = 1) ∧ Q (some (sI 0)) σ)))))))))) :
    Jd Y d y_MO_isCodedSo 2 [(0, sR t (.inl 6)), (1, sI v1)] [] σ Q :=
  blk_ok (d := d) (y := y_MO_isCodedSo) (ft := ft_MO) (ct := ct_MO) (tab := tab_MO_isCodedSo) ⟨tk_MO_isCodedSo, ft_MO_ok, ct_MO_ok Y⟩ [(2, [0, 1])] 27 2 _ _ σ h
set_option maxRecDepth 20000 in
theorem s_MO_row_0 (Y : List kd) (d : Nat) (t : Nat) (v1 : Int32) (σ : sS) (Q : Option sv → sS → Prop)
    (h : ((¬ (iBd v1 0 99) = 0 → Jd Y (d + 1) y_MO_row 24 [(0, sR t (.inl 6)), (1, sI v1), (2, sI (iBd v1 0 99))] [] σ Q) ∧ ((iBd v1 0 99) = 0 → ((¬ (σ t 52) = 32 → Jd Y (d + 1) y_MO_row 24 [(0, sR t (.inl 6)), (1, sI v1), (2, sI (iBd v1 0 99))] [] σ Q) ∧ ((σ t 52) = 32 → Jd Y (d + 1) y_MO_row 24 [(0, sR t (.inl 6)), (1, sI v1), (2, sI (-6))] [] σ Q))))) :
    Jd Y (d + 1) y_MO_row 0 [(0, sR t (.inl 6)), (1, sI v1)] [] σ Q :=
  blk_ok (d := (d + 1)) (y := y_MO_row) (ft := ft_MO) (ct := ct_MO) (tab := tab_MO_row) ⟨tk_MO_row, ft_MO_ok, ct_MO_ok Y⟩ [(24, [0, 1, 2])] 36 0 _ _ σ h
set_option maxRecDepth 20000 in
theorem s_MO_row_24 (Y : List kd) (d : Nat) (t : Nat) (v1 : Int32) (v2 : Int32) (σ : sS) (Q : Option sv → sS → Prop)
    (h : ((v2 = 0 → (vp_in (σ t 52) 32 ∧ Q (some (sI ((up (up σ (t + 36) (Int32.toNatClampNeg (σ t 52)) v1) t 52 (((up σ (t + 36) (Int32.toNatClampNeg (σ t 52)) v1) t 52) + 1)) t 52))) (up (up σ (t + 36) (Int32.toNatClampNeg (σ t 52)) v1) t 52 (((up σ (t + 36) (Int32.toNatClampNeg (σ t 52)) v1) t 52) + 1)))) ∧ (¬ v2 = 0 → CJ Y d y_MO_no [sR t (.inl 6), sI v2] σ (rI fun r1 σ1 => Q (some (sI r1)) σ1)))) :
    Jd Y (d + 1) y_MO_row 24 [(0, sR t (.inl 6)), (1, sI v1), (2, sI v2)] [] σ Q :=
  blk_ok (d := (d + 1)) (y := y_MO_row) (ft := ft_MO) (ct := ct_MO) (tab := tab_MO_row) ⟨tk_MO_row, ft_MO_ok, ct_MO_ok Y⟩ [(24, [0, 1, 2])] 36 24 _ _ σ h
set_option maxRecDepth 20000 in
theorem s_MO_judge_0 (Y : List kd) (d : Nat) (t : Nat) (σ : sS) (Q : Option sv → sS → Prop)
    (h : CJ Y d y_MO_findFaults [sR t (.inl 6)] (up σ t 52 0) (rN fun σ1 => Jd Y (d + 1) y_MO_judge 16 [(0, sR t (.inl 6)), (1, sI (σ t 52)), (2, sI 0)] [] σ1 Q)) :
    Jd Y (d + 1) y_MO_judge 0 [(0, sR t (.inl 6))] [] σ Q :=
  blk_ok (d := (d + 1)) (y := y_MO_judge) (ft := ft_MO) (ct := ct_MO) (tab := tab_MO_judge) ⟨tk_MO_judge, ft_MO_ok, ct_MO_ok Y⟩ [(16, [0, 1, 2])] 40 0 _ _ σ h
set_option maxRecDepth 20000 in
theorem s_MO_judge_16 (Y : List kd) (d : Nat) (t : Nat) (v1 : Int32) (v2 : Int32) (σ : sS) (Q : Option sv → sS → Prop)
    (h : ((¬ v2 < v1 → ((¬ v1 < (σ t 33) → Q (some (sI (-9))) σ) ∧ (v1 < (σ t 33) → Q (some (sI v1)) σ))) ∧ (v2 < v1 → ((¬ v2 < (σ t 33) → Q (some (sI v2)) σ) ∧ (v2 < (σ t 33) → (vp_in v2 16384 ∧ (vp_in v2 32 ∧ (((σ (t + 21) (Int32.toNatClampNeg v2)) = (σ (t + 36) (Int32.toNatClampNeg v2)) → Jd Y (d + 1) y_MO_judge 16 [(0, sR t (.inl 6)), (1, sI v1), (2, sI (v2 + 1))] [] σ Q) ∧ (¬ (σ (t + 21) (Int32.toNatClampNeg v2)) = (σ (t + 36) (Int32.toNatClampNeg v2)) → Q (some (sI v2)) σ))))))))) :
    Jd Y (d + 1) y_MO_judge 16 [(0, sR t (.inl 6)), (1, sI v1), (2, sI v2)] [] σ Q :=
  blk_ok (d := (d + 1)) (y := y_MO_judge) (ft := ft_MO) (ct := ct_MO) (tab := tab_MO_judge) ⟨tk_MO_judge, ft_MO_ok, ct_MO_ok Y⟩ [(16, [0, 1, 2])] 40 16 _ _ σ h
set_option maxRecDepth 20000 in
theorem s_MO_clear_0 (Y : List kd) (d : Nat) (t : Nat) (σ : sS) (Q : Option sv → sS → Prop)
    (h : Q (some (sI (σ t 52))) (up σ t 52 0)) :
    Jd Y d y_MO_clear 0 [(0, sR t (.inl 6))] [] σ Q :=
  blk_ok (d := d) (y := y_MO_clear) (ft := ft_MO) (ct := ct_MO) (tab := tab_MO_clear) ⟨tk_MO_clear, ft_MO_ok, ct_MO_ok Y⟩ [] 10 0 _ _ σ h
set_option maxRecDepth 20000 in
theorem s_MO_lots_0 (Y : List kd) (d : Nat) (t : Nat) (v1 : Int32) (v2 : Int32) (v3 : Int32) (σ : sS) (Q : Option sv → sS → Prop)
    (h : ((¬ (iBd v1 1 20) = 0 → Jd Y (d + 1) y_MO_lots 27 [(0, sR t (.inl 6)), (1, sI v1), (2, sI v2), (3, sI v3), (4, sI (iBd v1 1 20))] [] σ Q) ∧ ((iBd v1 1 20) = 0 → ((¬ (iIn v3 0 1) = 0 → Jd Y (d + 1) y_MO_lots 27 [(0, sR t (.inl 6)), (1, sI v1), (2, sI v2), (3, sI v3), (4, sI (iBd v1 1 20))] [] σ Q) ∧ ((iIn v3 0 1) = 0 → Jd Y (d + 1) y_MO_lots 27 [(0, sR t (.inl 6)), (1, sI v1), (2, sI v2), (3, sI v3), (4, sI (-2))] [] σ Q))))) :
    Jd Y (d + 1) y_MO_lots 0 [(0, sR t (.inl 6)), (1, sI v1), (2, sI v2), (3, sI v3)] [] σ Q :=
  blk_ok (d := (d + 1)) (y := y_MO_lots) (ft := ft_MO) (ct := ct_MO) (tab := tab_MO_lots) ⟨tk_MO_lots, ft_MO_ok, ct_MO_ok Y⟩ [(27, [0, 1, 2, 3, 4]), (50, [0, 1, 3, 5, 6]), (63, [0, 1, 3, 5, 6, 7]), (106, [0, 1, 3, 6])] 64 0 _ _ σ h
set_option maxRecDepth 20000 in
theorem s_MO_lots_27 (Y : List kd) (d : Nat) (t : Nat) (v1 : Int32) (v2 : Int32) (v3 : Int32) (v4 : Int32) (σ : sS) (Q : Option sv → sS → Prop)
    (h : ((v4 = 0 → Jd Y (d + 1) y_MO_lots 50 [(0, sR t (.inl 6)), (1, sI v1), (3, sI v3), (5, sI 0), (6, sI 0)] [] (up σ t 53 v2) Q) ∧ (¬ v4 = 0 → CJ Y d y_MO_no [sR t (.inl 6), sI v4] σ (rI fun r1 σ1 => Q (some (sI r1)) σ1)))) :
    Jd Y (d + 1) y_MO_lots 27 [(0, sR t (.inl 6)), (1, sI v1), (2, sI v2), (3, sI v3), (4, sI v4)] [] σ Q :=
  blk_ok (d := (d + 1)) (y := y_MO_lots) (ft := ft_MO) (ct := ct_MO) (tab := tab_MO_lots) ⟨tk_MO_lots, ft_MO_ok, ct_MO_ok Y⟩ [(27, [0, 1, 2, 3, 4]), (50, [0, 1, 3, 5, 6]), (63, [0, 1, 3, 5, 6, 7]), (106, [0, 1, 3, 6])] 64 27 _ _ σ h
set_option maxRecDepth 20000 in
theorem s_MO_lots_50 (Y : List kd) (d : Nat) (t : Nat) (v1 : Int32) (v3 : Int32) (v5 : Int32) (v6 : Int32) (σ : sS) (Q : Option sv → sS → Prop)
    (h : ((¬ v6 < v1 → Q (some (sI v5)) σ) ∧ (v6 < v1 → CJ Y d y_MO_minds [sR t (.inl 6)] σ (rN fun σ1 => Jd Y (d + 1) y_MO_lots 63 [(0, sR t (.inl 6)), (1, sI v1), (3, sI v3), (5, sI v5), (6, sI v6), (7, sI 0)] [] σ1 Q)))) :
    Jd Y (d + 1) y_MO_lots 50 [(0, sR t (.inl 6)), (1, sI v1), (3, sI v3), (5, sI v5), (6, sI v6)] [] σ Q :=
  blk_ok (d := (d + 1)) (y := y_MO_lots) (ft := ft_MO) (ct := ct_MO) (tab := tab_MO_lots) ⟨tk_MO_lots, ft_MO_ok, ct_MO_ok Y⟩ [(27, [0, 1, 2, 3, 4]), (50, [0, 1, 3, 5, 6]), (63, [0, 1, 3, 5, 6, 7]), (106, [0, 1, 3, 6])] 64 50 _ _ σ h
set_option maxRecDepth 20000 in
theorem s_MO_lots_63 (Y : List kd) (d : Nat) (t : Nat) (v1 : Int32) (v3 : Int32) (v5 : Int32) (v6 : Int32) (v7 : Int32) (σ : sS) (Q : Option sv → sS → Prop)
    (h : ((¬ v7 < 4 → CJ Y d y_MO_manyNow [sR t (.inl 6)] σ (rI fun r1 σ1 => ((¬ v3 = 0 → ((¬ r1 = 0 → Jd Y (d + 1) y_MO_lots 106 [(0, sR t (.inl 6)), (1, sI v1), (3, sI v3), (6, sI v6)] [sI 0, sI v5] σ1 Q) ∧ (r1 = 0 → Jd Y (d + 1) y_MO_lots 106 [(0, sR t (.inl 6)), (1, sI v1), (3, sI v3), (6, sI v6)] [sI 1, sI v5] σ1 Q))) ∧ (v3 = 0 → Jd Y (d + 1) y_MO_lots 106 [(0, sR t (.inl 6)), (1, sI v1), (3, sI v3), (6, sI v6)] [sI r1, sI v5] σ1 Q)))) ∧ (v7 < 4 → CJ Y d y_MO_changesByLot [sR t (.inl 6)] σ (rN fun σ2 => Jd Y (d + 1) y_MO_lots 63 [(0, sR t (.inl 6)), (1, sI v1), (3, sI v3), (5, sI v5), (6, sI v6), (7, sI (v7 + 1))] [] σ2 Q)))) :
    Jd Y (d + 1) y_MO_lots 63 [(0, sR t (.inl 6)), (1, sI v1), (3, sI v3), (5, sI v5), (6, sI v6), (7, sI v7)] [] σ Q :=
  blk_ok (d := (d + 1)) (y := y_MO_lots) (ft := ft_MO) (ct := ct_MO) (tab := tab_MO_lots) ⟨tk_MO_lots, ft_MO_ok, ct_MO_ok Y⟩ [(27, [0, 1, 2, 3, 4]), (50, [0, 1, 3, 5, 6]), (63, [0, 1, 3, 5, 6, 7]), (106, [0, 1, 3, 6])] 64 63 _ _ σ h
set_option maxRecDepth 20000 in
theorem s_MO_lots_106 (Y : List kd) (d : Nat) (t : Nat) (v1 : Int32) (v3 : Int32) (v6 : Int32) (s0 : Int32) (s1 : Int32) (σ : sS) (Q : Option sv → sS → Prop)
    (h : CJ Y d y_MO_forgets [sR t (.inl 6)] σ (rN fun σ1 => Jd Y (d + 1) y_MO_lots 50 [(0, sR t (.inl 6)), (1, sI v1), (3, sI v3), (5, sI (s1 + s0)), (6, sI (v6 + 1))] [] σ1 Q)) :
    Jd Y (d + 1) y_MO_lots 106 [(0, sR t (.inl 6)), (1, sI v1), (3, sI v3), (6, sI v6)] [sI s0, sI s1] σ Q :=
  blk_ok (d := (d + 1)) (y := y_MO_lots) (ft := ft_MO) (ct := ct_MO) (tab := tab_MO_lots) ⟨tk_MO_lots, ft_MO_ok, ct_MO_ok Y⟩ [(27, [0, 1, 2, 3, 4]), (50, [0, 1, 3, 5, 6]), (63, [0, 1, 3, 5, 6, 7]), (106, [0, 1, 3, 6])] 64 106 _ _ σ h
set_option maxRecDepth 20000 in
theorem s_MO_changesByLot_0 (Y : List kd) (d : Nat) (t : Nat) (σ : sS) (Q : Option sv → sS → Prop)
    (h : CJ Y d y_MO_draw [sR t (.inl 6), sI (σ t 6)] σ (rI fun r1 σ1 => CJ Y d y_MO_draw [sR t (.inl 6), sI 4] σ1 (rI fun r2 σ2 => ((¬ r2 = 0 → CJ Y d y_MO_draw [sR t (.inl 6), sI 100] σ2 (rI fun r3 σ3 => CJ Y d y_MO_putsAt [sR t (.inl 6), sI r1, sI 0, sI r3] σ3 (rN fun σ4 => Q none σ4))) ∧ (r2 = 0 → CJ Y d y_MO_putsAt [sR t (.inl 6), sI r1, sI 1, sI 0] σ2 (rN fun σ5 => Q none σ5)))))) :
    Jd Y (d + 1) y_MO_changesByLot 0 [(0, sR t (.inl 6))] [] σ Q :=
  blk_ok (d := (d + 1)) (y := y_MO_changesByLot) (ft := ft_MO) (ct := ct_MO) (tab := tab_MO_changesByLot) ⟨tk_MO_changesByLot, ft_MO_ok, ct_MO_ok Y⟩ [] 25 0 _ _ σ h
set_option maxRecDepth 20000 in
theorem s_MO_draw_0 (Y : List kd) (d : Nat) (t : Nat) (v1 : Int32) (σ : sS) (Q : Option sv → sS → Prop)
    (h : (¬ (256 : Int32) = 0 ∧ (¬ v1 = 0 ∧ Q (some (sI (((((up σ t 53 (((σ t 53) * 1664525) + 1013904223)) t 53) &&& 2147483647) / 256) - ((((up σ t 53 (((σ t 53) * 1664525) + 1013904223)) t 53) &&& 2147483647) / 256) / v1 * v1))) (up σ t 53 (((σ t 53) * 1664525) + 1013904223))))) :
    Jd Y d y_MO_draw 0 [(0, sR t (.inl 6)), (1, sI v1)] [] σ Q :=
  blk_ok (d := d) (y := y_MO_draw) (ft := ft_MO) (ct := ct_MO) (tab := tab_MO_draw) ⟨tk_MO_draw, ft_MO_ok, ct_MO_ok Y⟩ [] 19 0 _ _ σ h
set_option maxRecDepth 20000 in
theorem s_MO_count_0 (Y : List kd) (d : Nat) (t : Nat) (v1 : Int32) (σ : sS) (Q : Option sv → sS → Prop)
    (h : (((iIn v1 11 16) = 0 → ((v1 = 0 → Q (some (sI (σ t 6))) σ) ∧ (¬ v1 = 0 → ((v1 = 1 → Q (some (sI (σ t 20))) σ) ∧ (¬ v1 = 1 → ((v1 = 2 → CJ Y d y_MO_manyNow [sR t (.inl 6)] σ (rI fun r4 σ4 => Q (some (sI r4)) σ4)) ∧ (¬ v1 = 2 → ((v1 = 3 → CJ Y d y_MO_numbersUpTo [sR t (.inl 6), sI 20] σ (rI fun r3 σ3 => Q (some (sI r3)) σ3)) ∧ (¬ v1 = 3 → ((v1 = 4 → CJ Y d y_MO_greatestPath [sR t (.inl 6)] σ (rI fun r2 σ2 => Q (some (sI r2)) σ2)) ∧ (¬ v1 = 4 → ((v1 = 5 → CJ Y d y_MO_waits [sR t (.inl 6)] σ (rI fun r1 σ1 => Q (some (sI r1)) σ1)) ∧ (¬ v1 = 5 → ((v1 = 6 → Q (some (sI (σ t 52))) σ) ∧ (¬ v1 = 6 → ((v1 = 7 → Q (some (sI (σ t 42))) σ) ∧ (¬ v1 = 7 → Q (some (sI (-9))) σ))))))))))))))))) ∧ (¬ (iIn v1 11 16) = 0 → (vp_in (v1 - 10) 7 ∧ Q (some (sI (σ (t + 1) (Int32.toNatClampNeg (v1 - 10))))) σ)))) :
    Jd Y (d + 1) y_MO_count 0 [(0, sR t (.inl 6)), (1, sI v1)] [] σ Q :=
  blk_ok (d := (d + 1)) (y := y_MO_count) (ft := ft_MO) (ct := ct_MO) (tab := tab_MO_count) ⟨tk_MO_count, ft_MO_ok, ct_MO_ok Y⟩ [] 43 0 _ _ σ h
set_option maxRecDepth 20000 in
theorem s_MO_greatestPath_0 (Y : List kd) (d : Nat) (t : Nat) (σ : sS) (Q : Option sv → sS → Prop)
    (h : Jd Y d y_MO_greatestPath 4 [(0, sR t (.inl 6)), (1, sI 0), (2, sI 0)] [] σ Q) :
    Jd Y d y_MO_greatestPath 0 [(0, sR t (.inl 6))] [] σ Q :=
  blk_ok (d := d) (y := y_MO_greatestPath) (ft := ft_MO) (ct := ct_MO) (tab := tab_MO_greatestPath) ⟨tk_MO_greatestPath, ft_MO_ok, ct_MO_ok Y⟩ [(4, [0, 1, 2]), (32, [0, 2])] 27 0 _ _ σ h
set_option maxRecDepth 20000 in
theorem s_MO_greatestPath_4 (Y : List kd) (d : Nat) (t : Nat) (v1 : Int32) (v2 : Int32) (σ : sS) (Q : Option sv → sS → Prop)
    (h : ((¬ v2 < (σ t 6) → Q (some (sI v1)) σ) ∧ (v2 < (σ t 6) → (vp_in v2 21 ∧ ((¬ v1 < (σ (t + 6) (Int32.toNatClampNeg v2)) → Jd Y d y_MO_greatestPath 32 [(0, sR t (.inl 6)), (2, sI v2)] [sI v1] σ Q) ∧ (v1 < (σ (t + 6) (Int32.toNatClampNeg v2)) → (vp_in v2 21 ∧ Jd Y d y_MO_greatestPath 32 [(0, sR t (.inl 6)), (2, sI v2)] [sI (σ (t + 6) (Int32.toNatClampNeg v2))] σ Q))))))) :
    Jd Y d y_MO_greatestPath 4 [(0, sR t (.inl 6)), (1, sI v1), (2, sI v2)] [] σ Q :=
  blk_ok (d := d) (y := y_MO_greatestPath) (ft := ft_MO) (ct := ct_MO) (tab := tab_MO_greatestPath) ⟨tk_MO_greatestPath, ft_MO_ok, ct_MO_ok Y⟩ [(4, [0, 1, 2]), (32, [0, 2])] 27 4 _ _ σ h
set_option maxRecDepth 20000 in
theorem s_MO_greatestPath_32 (Y : List kd) (d : Nat) (t : Nat) (v2 : Int32) (s0 : Int32) (σ : sS) (Q : Option sv → sS → Prop)
    (h : Jd Y d y_MO_greatestPath 4 [(0, sR t (.inl 6)), (1, sI s0), (2, sI (v2 + 1))] [] σ Q) :
    Jd Y d y_MO_greatestPath 32 [(0, sR t (.inl 6)), (2, sI v2)] [sI s0] σ Q :=
  blk_ok (d := d) (y := y_MO_greatestPath) (ft := ft_MO) (ct := ct_MO) (tab := tab_MO_greatestPath) ⟨tk_MO_greatestPath, ft_MO_ok, ct_MO_ok Y⟩ [(4, [0, 1, 2]), (32, [0, 2])] 27 32 _ _ σ h
