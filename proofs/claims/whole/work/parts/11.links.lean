/-! orbits and high weights over ints -/
theorem mz_nv_le {a b C D : Nat} (h : a + b ≤ 12) (hC : C < 81) (hD : D < 81) : mz_nv a b C D < 4096 := by
  show a * C + b * D + (480 - 40 * (a + b)) < 4096
  have h1 : a * C ≤ a * 80 := Nat.mul_le_mul_left a (by omega)
  have h2 : b * D ≤ b * 80 := Nat.mul_le_mul_left b (by omega)
  omega
theorem mz_nv_eq {a b C D : Nat} (h : a + b ≤ 12) : (nI a - nI 3) * (nI C - nI 40) + (nI b - nI 3) * (nI D - nI 40) = nI (mz_nv a b C D) - nI (mz_s0 C D) := by
  show _ = nI (a * C + b * D + (480 - 40 * (a + b))) - nI (240 + 3 * (C + D))
  rw [← nI_add, ← nI_add, ← pk_sub (by omega), ← pk_mul, ← pk_mul, ← pk_mul, ← nI_add, ← nI_add, ← pk_mul, ← nI_add,
    show nI 480 = 480 from rfl, show nI 240 = 240 from rfl, show nI 40 = 40 from rfl, show nI 3 = 3 from rfl]
  grind
theorem mz_oX {t k C D : Nat} (ht : t < 4) (hk : k < 2 * mz_h t) : mz_X t k (nI C - nI 40) (nI D - nI 40) = nI (mz_nx (mz_w t) k C D) - nI (mz_s0 C D) := by
  unfold mz_X mz_nx
  rw [(mz_wa t ht k hk).1, (mz_wa t ht k hk).2, mz_nv_eq (mz_wc t ht k hk).1]
theorem mz_oY {t k C D : Nat} (ht : t < 4) (hk : k < 2 * mz_h t) : mz_Y t k (nI C - nI 40) (nI D - nI 40) = nI (mz_ny (mz_w t) k C D) - nI (mz_s0 C D) := by
  unfold mz_Y mz_ny
  rw [(mz_wb t ht k hk).1, (mz_wb t ht k hk).2, mz_nv_eq (mz_wc t ht k hk).2]
theorem mz_nxb {t k C D : Nat} (ht : t < 4) (hk : k < 2 * mz_h t) (hC : C < 81) (hD : D < 81) : mz_nx (mz_w t) k C D < 4096 ∧ mz_ny (mz_w t) k C D < 4096 :=
  ⟨mz_nv_le (mz_wc t ht k hk).1 hC hD, mz_nv_le (mz_wc t ht k hk).2 hC hD⟩
theorem mz_s0b {C D : Nat} (hC : C < 81) (hD : D < 81) : mz_s0 C D < 1000 := by
  show 240 + 3 * (C + D) < 1000; omega
theorem mz_ec_iff {t k l C D : Nat} (ht : t < 4) (hk : k < 2 * mz_h t) (hl : l < 2 * mz_h t) (hC : C < 81) (hD : D < 81) :
    (mz_X t k (nI C - nI 40) (nI D - nI 40) = mz_X t l (nI C - nI 40) (nI D - nI 40) ∧ mz_Y t k (nI C - nI 40) (nI D - nI 40) = mz_Y t l (nI C - nI 40) (nI D - nI 40)) ↔ mz_ec (mz_w t) C D k = mz_ec (mz_w t) C D l := by
  obtain ⟨b1, b2⟩ := mz_nxb ht hk hC hD
  obtain ⟨b3, b4⟩ := mz_nxb ht hl hC hD
  have b5 := mz_s0b hC hD
  rw [mz_oX ht hk, mz_oX ht hl, mz_oY ht hk, mz_oY ht hl]
  have e1 : mz_ec (mz_w t) C D k = 4096 * mz_nx (mz_w t) k C D + mz_ny (mz_w t) k C D := rfl
  have e2 : mz_ec (mz_w t) C D l = 4096 * mz_nx (mz_w t) l C D + mz_ny (mz_w t) l C D := rfl
  rw [e1, e2]
  constructor
  · rintro ⟨z1, z2⟩
    have f1 := congrArg Int32.toInt z1
    have f2 := congrArg Int32.toInt z2
    rw [mz_sub_to (by omega) (by omega), mz_sub_to (by omega) (by omega)] at f1 f2
    omega
  · intro z
    have f1 : mz_nx (mz_w t) k C D = mz_nx (mz_w t) l C D := by omega
    have f2 : mz_ny (mz_w t) k C D = mz_ny (mz_w t) l C D := by omega
    rw [f1, f2]; exact ⟨rfl, rfl⟩
theorem mz_hb_iff {t k C D : Nat} (ht : t < 4) (hk : k < 2 * mz_h t) (hC : C < 81) (hD : D < 81) :
    (¬ mz_X t k (nI C - nI 40) (nI D - nI 40) < 0 ∧ ¬ mz_Y t k (nI C - nI 40) (nI D - nI 40) < 0) ↔ mz_hb (mz_w t) C D k = true := by
  obtain ⟨b1, b2⟩ := mz_nxb ht hk hC hD
  have b5 := mz_s0b hC hD
  rw [mz_oX ht hk, mz_oY ht hk, mz_lt, mz_lt, mz_sub_to (by omega) (by omega), mz_sub_to (by omega) (by omega), show (0 : Int32).toInt = 0 by decide]
  unfold mz_hb
  cases h1 : Nat.ble (mz_s0 C D) (mz_nx (mz_w t) k C D) with
  | true =>
    have := Nat.le_of_ble_eq_true h1
    dsimp only [cond]
    cases h2 : Nat.ble (mz_s0 C D) (mz_ny (mz_w t) k C D) with
    | true => have := Nat.le_of_ble_eq_true h2; exact ⟨fun _ => rfl, fun _ => ⟨by omega, by omega⟩⟩
    | false => have : ¬ mz_s0 C D ≤ mz_ny (mz_w t) k C D := Nat.not_le_of_not_ble_eq_true (by rw [h2]; exact Bool.false_ne_true); exact ⟨fun z => absurd z.2 (by omega), fun z => by cases z⟩
  | false => have : ¬ mz_s0 C D ≤ mz_nx (mz_w t) k C D := Nat.not_le_of_not_ble_eq_true (by rw [h1]; exact Bool.false_ne_true); exact ⟨fun z => absurd z.1 (by omega), fun z => by cases z⟩
/-- the last high image among the first n motions, in the order g -/
def mz_hf (t : Nat) (c d : Int32) (g : Nat → Nat) : Nat → Int32
  | 0 => 0
  | n + 1 => if ¬ mz_X t (g n) c d < 0 ∧ ¬ mz_Y t (g n) c d < 0 then 1000 * mz_X t (g n) c d + mz_Y t (g n) c d else mz_hf t c d g n
def mz_hv (S e : Nat) : Int32 := match e with
  | 0 => 0
  | e + 1 => 1000 * (nI (e / 4096) - nI S) + (nI (e % 4096) - nI S)
theorem mz_hf_eq {t C D : Nat} (ht : t < 4) (hC : C < 81) (hD : D < 81) {g : Nat → Nat} : ∀ n : Nat, (∀ k, k < n → g k < 2 * mz_h t) → mz_hf t (nI C - nI 40) (nI D - nI 40) g n = mz_hv (mz_s0 C D) (mz_lh (mz_w t) C D g n) := by
  intro n
  induction n with
  | zero => intro _; rfl
  | succ n ih =>
    intro hg
    have e : mz_lh (mz_w t) C D g (n + 1) = cond (mz_hb (mz_w t) C D (g n)) (Nat.succ (mz_ec (mz_w t) C D (g n))) (mz_lh (mz_w t) C D g n) := rfl
    have hk := hg n (by omega)
    rw [mz_hf, e]
    by_cases c : mz_hb (mz_w t) C D (g n) = true
    · rw [if_pos ((mz_hb_iff ht hk hC hD).mpr c), c]
      show _ = 1000 * (nI (mz_ec (mz_w t) C D (g n) / 4096) - nI (mz_s0 C D)) + (nI (mz_ec (mz_w t) C D (g n) % 4096) - nI (mz_s0 C D))
      obtain ⟨b1, b2⟩ := mz_nxb ht hk hC hD
      have e1 : mz_ec (mz_w t) C D (g n) = 4096 * mz_nx (mz_w t) (g n) C D + mz_ny (mz_w t) (g n) C D := rfl
      rw [e1, mz_oX ht hk, mz_oY ht hk, show (4096 * mz_nx (mz_w t) (g n) C D + mz_ny (mz_w t) (g n) C D) / 4096 = mz_nx (mz_w t) (g n) C D by omega, show (4096 * mz_nx (mz_w t) (g n) C D + mz_ny (mz_w t) (g n) C D) % 4096 = mz_ny (mz_w t) (g n) C D by omega]
    · rw [if_neg (fun z => c ((mz_hb_iff ht hk hC hD).mp z)), ih (fun k hk => hg k (by omega))]
      cases h : mz_hb (mz_w t) C D (g n) with
      | true => exact absurd h c
      | false => rfl
theorem mz_sb_sw (t k : Nat) : mz_sb (mz_h t) k = mz_sw t k := by
  unfold mz_sb mz_sw
  by_cases c : k ≤ mz_h t
  · rw [if_pos c, Nat.ble_eq_true_of_le c]; rfl
  · rw [if_neg c]
    cases h : Nat.ble k (mz_h t) with
    | true => exact absurd (Nat.le_of_ble_eq_true h) c
    | false => rfl
theorem mz_ckO_of {t C D : Nat} (ht : t < 4) (hC : C < 81) (hD : D < 81) :
    mz_lh (mz_w t) C D (fun k => k) (2 * mz_h t) = mz_lh (mz_w t) C D (fun k => mz_sb (mz_h t) k) (2 * mz_h t)
      ∧ (2 * mz_h t) / (mz_ns (2 * mz_h t - 1) (fun k => mz_in (mz_ec (mz_w t) C D (k + 1)) (mz_ec (mz_w t) C D 0)) + 1) = mz_ns (2 * mz_h t) (fun k => cond (mz_fb (mz_w t) C D (mz_h t) k) 1 0) := by
  have c := mz_al_of (mz_al_of (mz_aO t ht (C / 9) (by omega)) (C % 9) (by omega)) D hD
  have e : Nat.add (Nat.mul 9 (C / 9)) (C % 9) = C := by show 9 * (C / 9) + C % 9 = C; omega
  rw [e] at c
  cases h : Nat.beq (mz_lh (mz_w t) C D (fun k => k) (Nat.mul 2 (mz_h t))) (mz_lh (mz_w t) C D (fun k => mz_sb (mz_h t) k) (Nat.mul 2 (mz_h t))) with
  | false => rw [h] at c; cases c
  | true =>
    rw [h] at c
    exact ⟨Nat.eq_of_beq_eq_true h, Nat.eq_of_beq_eq_true c⟩
theorem mz_high {t C D : Nat} (ht : t < 4) (hC : C < 81) (hD : D < 81) :
    mz_hf t (nI C - nI 40) (nI D - nI 40) (fun k => k) (2 * mz_h t) = mz_hf t (nI C - nI 40) (nI D - nI 40) (mz_sw t) (2 * mz_h t) := by
  rw [mz_hf_eq ht hC hD _ (fun k hk => hk), mz_hf_eq ht hC hD _ (fun k hk => mz_sw_lt hk), (mz_ckO_of ht hC hD).1, show (fun k => mz_sb (mz_h t) k) = mz_sw t from funext (mz_sb_sw t)]
/-- how many motions leave (c, d) where it is, among the first n + 1 -/
def mz_os (t : Nat) (c d : Int32) (n : Nat) : Int32 := 1 + mz_s (fun k => if mz_X t (k + 1) c d = c ∧ mz_Y t (k + 1) c d = d then 1 else 0) n
/-- is the image by the reference's motion k a new one -/
noncomputable def mz_fr (t : Nat) (c d : Int32) (k l : Nat) : Bool := mz_al l fun l => !(decide (mz_X t (mz_sw t k) c d = mz_X t (mz_sw t l) c d ∧ mz_Y t (mz_sw t k) c d = mz_Y t (mz_sw t l) c d))
theorem mz_X0 {t : Nat} (ht : t < 4) (c d : Int32) : mz_X t 0 c d = c ∧ mz_Y t 0 c d = d := by
  obtain ⟨h1, h2, h3, h4⟩ := mz_id t ht
  unfold mz_X mz_Y
  rw [h1, h2, h3, h4]
  constructor <;> grind
theorem mz_al_c {n : Nat} {f g : Nat → Bool} (h : ∀ i, i < n → f i = g i) : mz_al n f = mz_al n g := by
  induction n with
  | zero => rfl
  | succ n ih =>
    show cond (f n) (mz_al n f) false = cond (g n) (mz_al n g) false
    rw [h n (by omega), ih (fun i hi => h i (by omega))]
theorem mz_orb {t C D : Nat} (ht : t < 4) (hC : C < 81) (hD : D < 81) :
    nI (2 * mz_h t) / mz_os t (nI C - nI 40) (nI D - nI 40) (2 * mz_h t - 1) = mz_s (fun k => if mz_fr t (nI C - nI 40) (nI D - nI 40) k k = true then 1 else 0) (2 * mz_h t)
      ∧ ¬ mz_os t (nI C - nI 40) (nI D - nI 40) (2 * mz_h t - 1) = 0 := by
  obtain ⟨hh1, hh2⟩ := mz_hh t ht
  have e1 : mz_os t (nI C - nI 40) (nI D - nI 40) (2 * mz_h t - 1) = nI (mz_ns (2 * mz_h t - 1) (fun k => mz_in (mz_ec (mz_w t) C D (k + 1)) (mz_ec (mz_w t) C D 0)) + 1) := by
    rw [← nI_1 (mz_ns (2 * mz_h t - 1) (fun k => mz_in (mz_ec (mz_w t) C D (k + 1)) (mz_ec (mz_w t) C D 0))), mz_ns_s, mz_os, Int32.add_comm]
    refine congrArg (fun z => z + 1) (mz_s_c (fun k hk => ?_))
    obtain ⟨z1, z2⟩ := mz_X0 ht (nI C - nI 40) (nI D - nI 40)
    have i := mz_ec_iff ht (k := k + 1) (l := 0) (by omega) (by omega) hC hD
    rw [z1, z2] at i
    by_cases c : mz_ec (mz_w t) C D (k + 1) = mz_ec (mz_w t) C D 0
    · rw [if_pos (i.mpr c), c, mz_in_1]; rfl
    · rw [if_neg (fun z => c (i.mp z)), mz_in_0 c]; rfl
  have b := mz_ns_le (n := 2 * mz_h t - 1) (B := 1) (f := fun k => mz_in (mz_ec (mz_w t) C D (k + 1)) (mz_ec (mz_w t) C D 0)) (fun i _ => by
    show mz_in _ _ ≤ 1
    by_cases c : mz_ec (mz_w t) C D (i + 1) = mz_ec (mz_w t) C D 0
    · rw [c, mz_in_1]; exact Nat.le_refl 1
    · rw [mz_in_0 c]; exact Nat.zero_le 1)
  rw [e1]
  refine ⟨?_, nI_ne0 (by omega) (by omega)⟩
  rw [pk_div (by omega) (by omega) (by omega), (mz_ckO_of ht hC hD).2, mz_ns_s]
  refine mz_s_c (fun k hk => ?_)
  have e2 : mz_fb (mz_w t) C D (mz_h t) k = mz_fr t (nI C - nI 40) (nI D - nI 40) k k := by
    unfold mz_fb mz_fr
    refine mz_al_c (fun l hl => ?_)
    rw [mz_sb_sw, mz_sb_sw]
    have i := mz_ec_iff ht (k := mz_sw t k) (l := mz_sw t l) (mz_sw_lt hk) (mz_sw_lt (by omega)) hC hD
    by_cases c : mz_ec (mz_w t) C D (mz_sw t k) = mz_ec (mz_w t) C D (mz_sw t l)
    · rw [decide_eq_true (i.mpr c), c, Nat.beq_refl]; rfl
    · rw [decide_eq_false (fun z => c (i.mp z))]
      cases hb : Nat.beq (mz_ec (mz_w t) C D (mz_sw t k)) (mz_ec (mz_w t) C D (mz_sw t l)) with
      | true => exact absurd (Nat.eq_of_beq_eq_true hb) c
      | false => rfl
  rw [e2]
  cases mz_fr t (nI C - nI 40) (nI D - nI 40) k k with
  | true => rfl
  | false => rfl
/-! how many numbers are not 0 -/
def mz_px (t a i j : Nat) : Int32 := nI a - 2 * nI i - mz_q t * nI j
def mz_py (t b i j : Nat) : Int32 := nI b - mz_p t * nI i - 2 * nI j
theorem mz_qK : ∀ t, t < 4 → mz_q t = -nI (mz_K t) := by decide +kernel
theorem mz_px_eq {t : Nat} (ht : t < 4) (a i j : Nat) : mz_px t a i j = nI (a + mz_K t * j) - nI (2 * i) := by
  unfold mz_px
  rw [mz_qK t ht, ← nI_add, ← pk_mul, ← pk_mul, show nI 2 = 2 from rfl]; grind
theorem mz_py_eq (t b i j : Nat) : mz_py t b i j = nI (b + mz_P t * i) - nI (2 * j) := by
  unfold mz_py mz_p mz_P
  rw [← nI_add, ← pk_mul, ← pk_mul, show nI 2 = 2 from rfl]; grind
theorem mz_Kb : ∀ t, t < 4 → mz_K t ≤ 1 := by decide +kernel
theorem mz_pb {t : Nat} (ht : t < 4) {i j : Nat} (hi : i ≤ 18) (hj : j ≤ 30) : mz_K t * j ≤ 30 ∧ mz_P t * i ≤ 54 := by
  have h1 : mz_K t * j ≤ 1 * j := Nat.mul_le_mul_right j (mz_Kb t ht)
  have h2 : mz_P t * i ≤ 3 * i := Nat.mul_le_mul_right i (by show t ≤ 3; omega)
  omega
theorem mz_nz_eq (i : Nat) {X Y : Nat} (hX : X < 38) (hY : Y < 64) : (if mz_T i (nI X - nI 15) (nI Y - nI 25) = 0 then (0 : Int32) else 1) = nI (mz_nz (mz_tb i) X Y) := by
  rw [mz_T_at i hX hY]
  unfold mz_nz
  have l := mz_dg_lt (mz_tb i) (64 * X + Y)
  cases hb : Nat.beq (mz_dg (mz_tb i) (Nat.add (Nat.mul 64 X) Y)) 0 with
  | true =>
    have e : mz_dg (mz_tb i) (64 * X + Y) = 0 := Nat.eq_of_beq_eq_true hb
    rw [e, if_pos nI_0]; rfl
  | false =>
    have e : ¬ mz_dg (mz_tb i) (64 * X + Y) = 0 := fun z => by
      have : Nat.beq (mz_dg (mz_tb i) (Nat.add (Nat.mul 64 X) Y)) 0 = true := by
        show Nat.beq (mz_dg (mz_tb i) (64 * X + Y)) 0 = true
        rw [z]; rfl
      rw [hb] at this; cases this
    rw [if_neg (nI_ne0 (by omega) (by omega))]; rfl
theorem mz_cnt {t a b : Nat} (ht : t < 4) (ha : a < 4) (hb : b < 4) :
    mz_s (fun i => mz_s (fun j => if mz_T (mz_ix t a b) (mz_px t a i j) (mz_py t b i j) = 0 then (0 : Int32) else 1) 31) 19 = mz_s (fun c => if mz_T (mz_ix t a b) (mz_ex c) (mz_ey c) = 0 then (0 : Int32) else 1) 1089 := by
  have c := mz_aC (mz_ix t a b) (mz_ix_lt ht ha hb)
  rw [mz_ix_t ha hb, mz_ix_a ha hb, mz_ix_b hb] at c
  have c2 := congrArg nI c
  unfold mz_cX mz_cY at c2
  rw [mz_ns_s, mz_ns_s] at c2
  rw [show mz_s (fun c => if mz_T (mz_ix t a b) (mz_ex c) (mz_ey c) = 0 then (0 : Int32) else 1) 1089 = _ from mz_s33 (fun r s => if mz_T (mz_ix t a b) (nI r - nI 16) (nI s - nI 16) = 0 then (0 : Int32) else 1)]
  refine Eq.trans (mz_s_c (fun i hi => ?_)) (c2.trans (mz_s_c (fun r hr => ?_)))
  · rw [mz_ns_s]
    refine mz_s_c (fun j hj => ?_)
    obtain ⟨k1, k2⟩ := mz_pb ht (i := i) (j := j) (by omega) (by omega)
    by_cases g : 2 * i ≤ a + 15 + mz_K t * j ∧ 2 * j ≤ b + 25 + mz_P t * i ∧ a + 15 + mz_K t * j ≤ 37 + 2 * i ∧ b + 25 + mz_P t * i ≤ 63 + 2 * j
    · obtain ⟨g1, g2, g3, g4⟩ := g
      have b1 : Nat.ble (Nat.mul 2 i) (Nat.add (Nat.add a 15) (Nat.mul (mz_K t) j)) = true := Nat.ble_eq_true_of_le g1
      have b2 : Nat.ble (Nat.mul 2 j) (Nat.add (Nat.add b 25) (Nat.mul (mz_P t) i)) = true := Nat.ble_eq_true_of_le g2
      have b3 : Nat.ble (Nat.add (Nat.add a 15) (Nat.mul (mz_K t) j)) (Nat.add 37 (Nat.mul 2 i)) = true := Nat.ble_eq_true_of_le g3
      have b4 : Nat.ble (Nat.add (Nat.add b 25) (Nat.mul (mz_P t) i)) (Nat.add 63 (Nat.mul 2 j)) = true := Nat.ble_eq_true_of_le g4
      rw [b1, b2, b3, b4]
      have e1 : mz_px t a i j = nI (a + 15 + mz_K t * j - 2 * i) - nI 15 := by
        rw [mz_px_eq ht, ← pk_sub g1, ← nI_add, ← nI_add, ← nI_add]; grind
      have e2 : mz_py t b i j = nI (b + 25 + mz_P t * i - 2 * j) - nI 25 := by
        rw [mz_py_eq, ← pk_sub g2, ← nI_add, ← nI_add, ← nI_add]; grind
      rw [e1, e2, mz_nz_eq _ (by omega) (by omega)]; rfl
    · have z : mz_T (mz_ix t a b) (mz_px t a i j) (mz_py t b i j) = 0 := by
        by_cases z : mz_T (mz_ix t a b) (mz_px t a i j) (mz_py t b i j) = 0
        · exact z
        · exfalso
          obtain ⟨X, Y, hX, hY, x1, x2, _⟩ := mz_T_ex z
          rw [mz_px_eq ht] at x1
          rw [mz_py_eq] at x2
          have f1 := congrArg Int32.toInt x1
          have f2 := congrArg Int32.toInt x2
          rw [mz_sub_to (by omega) (by omega), mz_sub_to (by omega) (by omega)] at f1 f2
          omega
      rw [if_pos z]
      have q : (Nat.ble (Nat.mul 2 i) (Nat.add (Nat.add a 15) (Nat.mul (mz_K t) j)) && (Nat.ble (Nat.mul 2 j) (Nat.add (Nat.add b 25) (Nat.mul (mz_P t) i)) && (Nat.ble (Nat.add (Nat.add a 15) (Nat.mul (mz_K t) j)) (Nat.add 37 (Nat.mul 2 i)) && Nat.ble (Nat.add (Nat.add b 25) (Nat.mul (mz_P t) i)) (Nat.add 63 (Nat.mul 2 j))))) = false := by
        apply Bool.eq_false_iff.mpr
        intro w
        simp only [Bool.and_eq_true] at w
        exact g ⟨Nat.le_of_ble_eq_true w.1, Nat.le_of_ble_eq_true w.2.1, Nat.le_of_ble_eq_true w.2.2.1, Nat.le_of_ble_eq_true w.2.2.2⟩
      rw [q]; rfl
  · rw [mz_ns_s]
    refine mz_s_c (fun s hs => ?_)
    by_cases r0 : r = 0
    · subst r0
      have z : mz_T (mz_ix t a b) (nI 0 - nI 16) (nI s - nI 16) = 0 := by
        unfold mz_T
        refine if_neg ?_
        rw [mz_sub_to (by omega) (by omega)]; omega
      rw [if_pos z]; rfl
    · have e1 : nI r - nI 16 = nI (r - 1) - nI 15 := by rw [← pk_sub (by omega), show nI 16 = nI 1 + nI 15 by decide]; grind
      have e2 : nI s - nI 16 = nI (s + 9) - nI 25 := by rw [← nI_add, show nI 25 = nI 9 + nI 16 by decide]; grind
      rw [e1, e2, mz_nz_eq _ (by omega) (by omega)]
      cases hb : Nat.beq r 0 with
      | true => exact absurd (Nat.eq_of_beq_eq_true hb) r0
      | false => rfl
