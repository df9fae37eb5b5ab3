/-! orbits and high weights: the parts of a motion plus 3, four bits each -/
def mz_w (t : Nat) : Nat := match t with
  | 0 => 0x2334233243324334
  | 1 => 0x234434223223224344324334
  | 2 => 0x23444522213423324322214445324334
  | _ => 0x234456221045462120342332432210445621204546324334
def mz_cf (W k j : Nat) : Nat := Nat.mod (Nat.shiftRight W (Nat.add (Nat.mul 16 k) (Nat.mul 4 j))) 16
def mz_nv (a b C D : Nat) : Nat := Nat.add (Nat.add (Nat.mul a C) (Nat.mul b D)) (Nat.sub 480 (Nat.mul 40 (Nat.add a b)))
def mz_nx (W k C D : Nat) : Nat := mz_nv (mz_cf W k 0) (mz_cf W k 1) C D
def mz_ny (W k C D : Nat) : Nat := mz_nv (mz_cf W k 2) (mz_cf W k 3) C D
def mz_ec (W C D k : Nat) : Nat := Nat.add (Nat.mul 4096 (mz_nx W k C D)) (mz_ny W k C D)
def mz_s0 (C D : Nat) : Nat := Nat.add 240 (Nat.mul 3 (Nat.add C D))
def mz_hb (W C D k : Nat) : Bool := cond (Nat.ble (mz_s0 C D) (mz_nx W k C D)) (Nat.ble (mz_s0 C D) (mz_ny W k C D)) false
def mz_sb (h k : Nat) : Nat := cond (Nat.ble k h) k (Nat.sub (Nat.mul 3 h) k)
noncomputable def mz_lh (W C D : Nat) (g : Nat → Nat) (n : Nat) : Nat := Nat.rec (motive := fun _ => Nat) 0 (fun k ih => cond (mz_hb W C D (g k)) (Nat.succ (mz_ec W C D (g k))) ih) n
noncomputable def mz_fb (W C D h k : Nat) : Bool := mz_al k fun l => cond (Nat.beq (mz_ec W C D (mz_sb h k)) (mz_ec W C D (mz_sb h l))) false true
noncomputable def mz_ckO (W h r : Nat) : Bool := mz_al 9 fun C' => mz_al 81 fun D =>
  cond (Nat.beq (mz_lh W (Nat.add (Nat.mul 9 r) C') D (fun k => k) (Nat.mul 2 h)) (mz_lh W (Nat.add (Nat.mul 9 r) C') D (fun k => mz_sb h k) (Nat.mul 2 h)))
    (Nat.beq (Nat.div (Nat.mul 2 h) (Nat.succ (mz_ns (Nat.pred (Nat.mul 2 h)) fun k => mz_in (mz_ec W (Nat.add (Nat.mul 9 r) C') D (Nat.succ k)) (mz_ec W (Nat.add (Nat.mul 9 r) C') D 0))))
      (mz_ns (Nat.mul 2 h) fun k => cond (mz_fb W (Nat.add (Nat.mul 9 r) C') D h k) 1 0)) false
theorem mz_cO0_0 : mz_ckO (mz_w 0) 2 0 = true := by decide +kernel
theorem mz_cO0_1 : mz_ckO (mz_w 0) 2 1 = true := by decide +kernel
theorem mz_cO0_2 : mz_ckO (mz_w 0) 2 2 = true := by decide +kernel
theorem mz_cO0_3 : mz_ckO (mz_w 0) 2 3 = true := by decide +kernel
theorem mz_cO0_4 : mz_ckO (mz_w 0) 2 4 = true := by decide +kernel
theorem mz_cO0_5 : mz_ckO (mz_w 0) 2 5 = true := by decide +kernel
theorem mz_cO0_6 : mz_ckO (mz_w 0) 2 6 = true := by decide +kernel
theorem mz_cO0_7 : mz_ckO (mz_w 0) 2 7 = true := by decide +kernel
theorem mz_cO0_8 : mz_ckO (mz_w 0) 2 8 = true := by decide +kernel
theorem mz_cO1_0 : mz_ckO (mz_w 1) 3 0 = true := by decide +kernel
theorem mz_cO1_1 : mz_ckO (mz_w 1) 3 1 = true := by decide +kernel
theorem mz_cO1_2 : mz_ckO (mz_w 1) 3 2 = true := by decide +kernel
theorem mz_cO1_3 : mz_ckO (mz_w 1) 3 3 = true := by decide +kernel
theorem mz_cO1_4 : mz_ckO (mz_w 1) 3 4 = true := by decide +kernel
theorem mz_cO1_5 : mz_ckO (mz_w 1) 3 5 = true := by decide +kernel
theorem mz_cO1_6 : mz_ckO (mz_w 1) 3 6 = true := by decide +kernel
theorem mz_cO1_7 : mz_ckO (mz_w 1) 3 7 = true := by decide +kernel
theorem mz_cO1_8 : mz_ckO (mz_w 1) 3 8 = true := by decide +kernel
theorem mz_cO2_0 : mz_ckO (mz_w 2) 4 0 = true := by decide +kernel
theorem mz_cO2_1 : mz_ckO (mz_w 2) 4 1 = true := by decide +kernel
theorem mz_cO2_2 : mz_ckO (mz_w 2) 4 2 = true := by decide +kernel
theorem mz_cO2_3 : mz_ckO (mz_w 2) 4 3 = true := by decide +kernel
theorem mz_cO2_4 : mz_ckO (mz_w 2) 4 4 = true := by decide +kernel
theorem mz_cO2_5 : mz_ckO (mz_w 2) 4 5 = true := by decide +kernel
theorem mz_cO2_6 : mz_ckO (mz_w 2) 4 6 = true := by decide +kernel
theorem mz_cO2_7 : mz_ckO (mz_w 2) 4 7 = true := by decide +kernel
theorem mz_cO2_8 : mz_ckO (mz_w 2) 4 8 = true := by decide +kernel
theorem mz_cO3_0 : mz_ckO (mz_w 3) 6 0 = true := by decide +kernel
theorem mz_cO3_1 : mz_ckO (mz_w 3) 6 1 = true := by decide +kernel
theorem mz_cO3_2 : mz_ckO (mz_w 3) 6 2 = true := by decide +kernel
theorem mz_cO3_3 : mz_ckO (mz_w 3) 6 3 = true := by decide +kernel
theorem mz_cO3_4 : mz_ckO (mz_w 3) 6 4 = true := by decide +kernel
theorem mz_cO3_5 : mz_ckO (mz_w 3) 6 5 = true := by decide +kernel
theorem mz_cO3_6 : mz_ckO (mz_w 3) 6 6 = true := by decide +kernel
theorem mz_cO3_7 : mz_ckO (mz_w 3) 6 7 = true := by decide +kernel
theorem mz_cO3_8 : mz_ckO (mz_w 3) 6 8 = true := by decide +kernel
theorem mz_aO : ∀ t, t < 4 → ∀ r, r < 9 → mz_ckO (mz_w t) (mz_h t) r = true := by
  intro t ht r hr
  match t, ht, r, hr with
  | 0, _, 0, _ => exact mz_cO0_0
  | 0, _, 1, _ => exact mz_cO0_1
  | 0, _, 2, _ => exact mz_cO0_2
  | 0, _, 3, _ => exact mz_cO0_3
  | 0, _, 4, _ => exact mz_cO0_4
  | 0, _, 5, _ => exact mz_cO0_5
  | 0, _, 6, _ => exact mz_cO0_6
  | 0, _, 7, _ => exact mz_cO0_7
  | 0, _, 8, _ => exact mz_cO0_8
  | 1, _, 0, _ => exact mz_cO1_0
  | 1, _, 1, _ => exact mz_cO1_1
  | 1, _, 2, _ => exact mz_cO1_2
  | 1, _, 3, _ => exact mz_cO1_3
  | 1, _, 4, _ => exact mz_cO1_4
  | 1, _, 5, _ => exact mz_cO1_5
  | 1, _, 6, _ => exact mz_cO1_6
  | 1, _, 7, _ => exact mz_cO1_7
  | 1, _, 8, _ => exact mz_cO1_8
  | 2, _, 0, _ => exact mz_cO2_0
  | 2, _, 1, _ => exact mz_cO2_1
  | 2, _, 2, _ => exact mz_cO2_2
  | 2, _, 3, _ => exact mz_cO2_3
  | 2, _, 4, _ => exact mz_cO2_4
  | 2, _, 5, _ => exact mz_cO2_5
  | 2, _, 6, _ => exact mz_cO2_6
  | 2, _, 7, _ => exact mz_cO2_7
  | 2, _, 8, _ => exact mz_cO2_8
  | 3, _, 0, _ => exact mz_cO3_0
  | 3, _, 1, _ => exact mz_cO3_1
  | 3, _, 2, _ => exact mz_cO3_2
  | 3, _, 3, _ => exact mz_cO3_3
  | 3, _, 4, _ => exact mz_cO3_4
  | 3, _, 5, _ => exact mz_cO3_5
  | 3, _, 6, _ => exact mz_cO3_6
  | 3, _, 7, _ => exact mz_cO3_7
  | 3, _, 8, _ => exact mz_cO3_8
  | (n + 4), h, _, _ => omega
  | _, _, (n + 9), h => omega
theorem mz_wa : ∀ t, t < 4 → ∀ k, k < 2 * mz_h t → (mz_ma t k = nI (mz_cf (mz_w t) k 0) - nI 3 ∧ mz_mb t k = nI (mz_cf (mz_w t) k 1) - nI 3) := by decide +kernel
theorem mz_wb : ∀ t, t < 4 → ∀ k, k < 2 * mz_h t → (mz_mc t k = nI (mz_cf (mz_w t) k 2) - nI 3 ∧ mz_md t k = nI (mz_cf (mz_w t) k 3) - nI 3) := by decide +kernel
theorem mz_wc : ∀ t, t < 4 → ∀ k, k < 2 * mz_h t → (mz_cf (mz_w t) k 0 + mz_cf (mz_w t) k 1 ≤ 12 ∧ mz_cf (mz_w t) k 2 + mz_cf (mz_w t) k 3 ≤ 12) := by decide +kernel
