/-! the first worlds -/
def σX0 : sS := fun c => match c with
  | 1 => upd (fun _ => 0) 6 1
  | 6 => upd (fun _ => 0) 0 1
  | 8 => upd (fun _ => 0) 6 1
  | 13 => upd (fun _ => 0) 0 1
  | 15 => upd (fun _ => 0) 1 30
  | 16 => upd (fun _ => 0) 13 1
  | 17 => upd (fun _ => 0) 0 42
  | 20 => upd (fun _ => 0) 0 1
  | 30 => upd (fun _ => 0) 6 1
  | 35 => upd (fun _ => 0) 0 1
  | 40 => upd (fun _ => 0) 6 1
  | 45 => upd (fun _ => 0) 0 1
  | 49 => upd (fun _ => 0) 13 1
  | 50 => upd (fun _ => 0) 0 42
  | 53 => upd (fun _ => 0) 0 1
  | 67 => upd (fun _ => 0) 6 1
  | 72 => upd (fun _ => 0) 0 1
  | 74 => upd (fun _ => 0) 13 1
  | 75 => upd (fun _ => 0) 0 42
  | 78 => upd (fun _ => 0) 0 1
  | _ => fun _ => 0
def wlR (cA : ClassId) (ad : Nat → Nat) (σ : sS) : Nat → List kd → va_W
  | _, [] => []
  | b, k :: r => (ad b, ent cA ad σ b k) :: wlR cA ad σ (b + 1) r
theorem wlR_get (cA : ClassId) (ad : Nat → Nat) (σ : sS) : ∀ (Y : List kd) (b i : Nat), (wlR cA ad σ b Y)[i]? = (Y[i]?).map (fun k => (ad (b + i), ent cA ad σ (b + i) k))
  | [], b, i => by simp [wlR]
  | k :: r, b, 0 => by simp [wlR]
  | k :: r, b, i + 1 => by
    simp only [wlR, List.getElem?_cons_succ]
    rw [wlR_get cA ad σ r (b + 1) i]
    have : b + 1 + i = b + (i + 1) := by omega
    rw [this]
theorem wl_R (cA : ClassId) (ad : Nat → Nat) (σ : sS) (Y : List kd) : wl cA ad σ Y = wlR cA ad σ 0 Y := by
  apply List.ext_getElem?
  intro i
  rw [wlR_get]
  unfold wl
  rw [List.getElem?_mapIdx, Nat.zero_add]
set_option maxRecDepth 100000 in
set_option maxHeartbeats 4000000 in
theorem pw_GF_wl (cA : ClassId) (u : Nat → Nat) : pw_GF cA u = wl cA u σX0 LX := by
  rw [wl_R]
  rfl
def lokB (Y : List kd) : Bool := (List.range Y.length).all (fun b => match Y[b]? with
  | some (.inl ci) => (cfs.getD ci []).all (fun s => !(Nat.beq s.1 1) || decide (Y[b + s.2.1]? = some s.2.2))
  | _ => true)
theorem lok_of {Y : List kd} (h1 : Y.length < 2 ^ 31) (h : lokB Y = true) : lok Y := by
  refine ⟨h1, ?_⟩
  intro b ci hb k s hk hs
  have hbl := (List.getElem?_eq_some_iff.mp hb).1
  have h2 := List.all_eq_true.mp h b (List.mem_range.mpr hbl)
  simp only [hb] at h2
  have h3 := List.all_eq_true.mp h2 s (List.mem_of_getElem? hk)
  rw [hs] at h3
  simpa using h3
theorem LX_ok : lok LX := lok_of (by decide) (by decide +kernel)
theorem vin {n N : Nat} (h : n < N) (hN : N < 2 ^ 31) : vp_in (nI n) N := vp_in_nI h hN
