/-! the reference: small methods -/
def yw_tn (t k : Nat) : Nat := if k ≤ mz_h t then k else k - mz_h t
theorem yw_half {t : Nat} (ht : t < 4) : nI (2 * mz_h t) / 2 = nI (mz_h t) := by
  have hh := mz_hh t ht
  have e := pk_div (a := 2 * mz_h t) (d := 2) (by omega) (by omega) (by omega)
  rw [show 2 * mz_h t / 2 = mz_h t by omega] at e
  exact e
section
variable {t : Nat} {gt fx fy : Int32} {hA hB nu pr sX sY tX tY : Nat → Int32}

theorem yw_turns {post : Int32 → Prop} {k : Nat} (ht : t < 4) (hk : k < 1000) (h : post (nI (yw_tn t k))) : wpY_turns post (gt, (mz_p t), (mz_q t), (nI (2 * mz_h t)), fx, fy, hA, hB, nu, pr, sX, sY, tX, tY) (nI k) := by
  have hh := mz_hh t ht
  unfold wpY_turns
  dsimp only
  rw [yw_half ht]
  refine ⟨by decide, ?_⟩
  by_cases c : k ≤ mz_h t
  · rw [show yw_tn t k = k from if_pos c] at h
    exact br_f (nI_nlt c (by omega)) h
  · rw [show yw_tn t k = k - mz_h t from if_neg c] at h
    refine br_t (nI_lt (by omega) (by omega)) ⟨by decide, ?_⟩
    rw [pk_sub (by omega)]; exact h
theorem yw_sg {post : Int32 → Prop} {k : Nat} (ht : t < 4) (hk : k < 2 * mz_h t) (h : post (mz_sg (mz_sw t k))) : wpY_sign post (gt, (mz_p t), (mz_q t), (nI (2 * mz_h t)), fx, fy, hA, hB, nu, pr, sX, sY, tX, tY) (nI k) := by
  have hh := mz_hh t ht
  unfold wpY_sign
  dsimp only
  refine yw_turns ht (by omega) ⟨by decide, ?_⟩
  have e : mz_sg (mz_sw t k) = mz_sg (yw_tn t k) := by
    unfold mz_sg mz_sw yw_tn
    by_cases c : k ≤ mz_h t
    · rw [if_pos c, if_pos c]
    · rw [if_neg c, if_neg c, show (3 * mz_h t - k) % 2 = (k - mz_h t) % 2 by omega]
  have l : yw_tn t k < 1000 := by unfold yw_tn; split <;> omega
  rw [e] at h
  rw [xw_rem2 l]
  unfold mz_sg at h
  by_cases c : yw_tn t k % 2 = 0
  · rw [if_pos c] at h
    rw [c]; exact br_t nI_0 h
  · rw [if_neg c] at h
    exact br_f (nI_ne0 (by omega) (by omega)) h
theorem yw_stX0 {k : Nat} (ht : t < 4) (hk : k < 2 * mz_h t) (c : k % 2 = 0) (x y : Int32) : mz_X t (k + 1) x y = -mz_X t k x y ∧ mz_Y t (k + 1) x y = mz_Y t k x y - mz_X t k x y * mz_p t := by
  obtain ⟨q1, q2, q3, q4⟩ := mz_st0 t ht k hk c
  unfold mz_X mz_Y
  rw [q1, q2, q3, q4]
  constructor <;> grind
theorem yw_stX1 {k : Nat} (ht : t < 4) (hk : k < 2 * mz_h t) (c : ¬ k % 2 = 0) (x y : Int32) : mz_X t (k + 1) x y = mz_X t k x y - mz_Y t k x y * mz_q t ∧ mz_Y t (k + 1) x y = -mz_Y t k x y := by
  obtain ⟨q1, q2, q3, q4⟩ := mz_st1 t ht k hk c
  unfold mz_X mz_Y
  rw [q1, q2, q3, q4]
  constructor <;> grind
theorem yw_Xm (ht : t < 4) (x y : Int32) : mz_X t (2 * mz_h t) x y = x ∧ mz_Y t (2 * mz_h t) x y = y := by
  obtain ⟨h1, h2, h3, h4⟩ := mz_idm t ht
  unfold mz_X mz_Y
  rw [h1, h2, h3, h4]
  constructor <;> grind
theorem yw_moveA {post : SY → Prop} {k : Nat} {x y : Int32} (ht : t < 4) (hk : k ≤ mz_h t)
    (h : post (gt, (mz_p t), (mz_q t), (nI (2 * mz_h t)), (mz_X t (mz_sw t k) x y), (mz_Y t (mz_sw t k) x y), hA, hB, nu, pr, sX, sY, tX, tY)) : ∃ n, wY_move_30 post (nI k) gt (mz_p t) (mz_q t) (nI (2 * mz_h t)) hA hB nu pr sX sY tX tY n 1 0 x y := by
  have hh := mz_hh t ht
  have et : yw_tn t k = k := if_pos hk
  refine pk_loop (fun n i (s : Int32 × Int32 × Int32) => wY_move_30 post (nI k) gt (mz_p t) (mz_q t) (nI (2 * mz_h t)) hA hB nu pr sX sY tX tY n s.1 (nI i) s.2.1 s.2.2)
    (fun i s => s = (if i % 2 = 0 then (1 : Int32) else 0, mz_X t i x y, mz_Y t i x y)) k 0 (1, x, y) (by omega) ?_ ?_ ?_
  · rw [(mz_X0 ht x y).1, (mz_X0 ht x y).2]; rfl
  · intro n s hs
    subst hs
    rw [wY_move_30]
    refine yw_turns (k := k) ht (by omega) ?_
    rw [et]
    exact br_t (nI_le (Nat.le_refl _) (by omega)) (by rw [show mz_sw t k = k from if_pos hk] at h; exact h)
  · intro n i s hi hs ih
    subst hs
    rw [wY_move_30]
    refine yw_turns (k := k) ht (by omega) ?_
    rw [et]
    refine br_f (nI_ge hi (by omega)) ?_
    by_cases c : i % 2 = 0
    · obtain ⟨q1, q2⟩ := yw_stX0 ht (k := i) (by omega) c x y
      dsimp only
      rw [if_pos c]
      refine br_f (by decide) (fun y' ey x' ex => br_f (by decide) (fun x5 e5 => ?_))
      rw [e5, nI_1, ex, ey, ← q1, ← q2]
      refine ih (0, mz_X t (i + 1) x y, mz_Y t (i + 1) x y) ?_
      rw [if_neg (by omega)]
    · obtain ⟨q1, q2⟩ := yw_stX1 ht (k := i) (by omega) c x y
      dsimp only
      rw [if_neg c]
      refine br_t (by decide) (fun x' ex y' ey => br_t (by decide) (fun x5 e5 => ?_))
      rw [e5, nI_1, ex, ey, ← q1, ← q2]
      refine ih (1, mz_X t (i + 1) x y, mz_Y t (i + 1) x y) ?_
      rw [if_pos (by omega)]
theorem yw_moveB {post : SY → Prop} {k : Nat} {x y : Int32} (ht : t < 4) (hk : ¬ k ≤ mz_h t) (hk2 : k < 2 * mz_h t)
    (h : post (gt, (mz_p t), (mz_q t), (nI (2 * mz_h t)), (mz_X t (mz_sw t k) x y), (mz_Y t (mz_sw t k) x y), hA, hB, nu, pr, sX, sY, tX, tY)) : ∃ n, wY_move_30 post (nI k) gt (mz_p t) (mz_q t) (nI (2 * mz_h t)) hA hB nu pr sX sY tX tY n 0 0 x y := by
  have hh := mz_hh t ht
  have et : yw_tn t k = k - mz_h t := if_neg hk
  refine pk_loop (fun n i (s : Int32 × Int32 × Int32) => wY_move_30 post (nI k) gt (mz_p t) (mz_q t) (nI (2 * mz_h t)) hA hB nu pr sX sY tX tY n s.1 (nI i) s.2.1 s.2.2)
    (fun i s => s = (if i % 2 = 0 then (0 : Int32) else 1, mz_X t (2 * mz_h t - i) x y, mz_Y t (2 * mz_h t - i) x y)) (k - mz_h t) 0 (0, x, y) (by omega) ?_ ?_ ?_
  · rw [Nat.sub_zero, (yw_Xm ht x y).1, (yw_Xm ht x y).2]; rfl
  · intro n s hs
    subst hs
    rw [wY_move_30]
    refine yw_turns (k := k) ht (by omega) ?_
    rw [et]
    exact br_t (nI_le (Nat.le_refl _) (by omega)) (by rw [show mz_sw t k = 2 * mz_h t - (k - mz_h t) from (if_neg hk).trans (by omega)] at h; exact h)
  · intro n i s hi hs ih
    subst hs
    rw [wY_move_30]
    refine yw_turns (k := k) ht (by omega) ?_
    rw [et]
    refine br_f (nI_ge hi (by omega)) ?_
    obtain ⟨m, hm⟩ : ∃ m, 2 * mz_h t - i = m + 1 := ⟨2 * mz_h t - i - 1, by omega⟩
    have hm2 : 2 * mz_h t - (i + 1) = m := by omega
    rw [hm2] at ih
    by_cases c : i % 2 = 0
    · obtain ⟨q1, q2⟩ := yw_stX1 ht (k := m) (by omega) (by omega) x y
      dsimp only
      rw [if_pos c, hm]
      refine br_t (by decide) (fun x' ex y' ey => br_t (by decide) (fun x5 e5 => ?_))
      have ex' : x' = mz_X t m x y := by rw [ex, q1, q2]; grind
      have ey' : y' = mz_Y t m x y := by rw [ey, q2]; grind
      rw [e5, nI_1, ex', ey']
      refine ih (1, mz_X t m x y, mz_Y t m x y) ?_
      rw [if_neg (by omega)]
    · obtain ⟨q1, q2⟩ := yw_stX0 ht (k := m) (by omega) (by omega) x y
      dsimp only
      rw [if_neg c, hm]
      refine br_f (by decide) (fun y' ey x' ex => br_f (by decide) (fun x5 e5 => ?_))
      have ex' : x' = mz_X t m x y := by rw [ex, q1]; grind
      have ey' : y' = mz_Y t m x y := by rw [ey, q1, q2]; grind
      rw [e5, nI_1, ex', ey']
      refine ih (0, mz_X t m x y, mz_Y t m x y) ?_
      rw [if_pos (by omega)]
theorem yw_move {post : SY → Prop} {k : Nat} {x y : Int32} (ht : t < 4) (hk : k < 2 * mz_h t)
    (h : post (gt, (mz_p t), (mz_q t), (nI (2 * mz_h t)), (mz_X t (mz_sw t k) x y), (mz_Y t (mz_sw t k) x y), hA, hB, nu, pr, sX, sY, tX, tY)) : wpY_move post (gt, (mz_p t), (mz_q t), (nI (2 * mz_h t)), fx, fy, hA, hB, nu, pr, sX, sY, tX, tY) (nI k) x y := by
  have hh := mz_hh t ht
  unfold wpY_move
  dsimp only
  rw [yw_half ht]
  refine ⟨by decide, ?_⟩
  by_cases c : k ≤ mz_h t
  · exact br_f (nI_nlt c (by omega)) (yw_moveA ht c h)
  · exact br_t (nI_lt (by omega) (by omega)) (yw_moveB ht c hk h)
def yw_in (x y : Int32) : Prop := -16 ≤ x.toInt ∧ x.toInt ≤ 16 ∧ -16 ≤ y.toInt ∧ y.toInt ≤ 16
theorem yw_16 : (-16 : Int32).toInt = -16 ∧ (16 : Int32).toInt = 16 := by decide
def yw_cl (x y : Int32) : Nat := (33 * (x.toInt + 16) + (y.toInt + 16)).toNat
theorem yw_cl_lt {x y : Int32} (g : yw_in x y) : yw_cl x y < 1089 := by
  obtain ⟨g1, g2, g3, g4⟩ := g
  unfold yw_cl; omega
theorem yw_cl_eq {x y : Int32} {s : Nat} (g : yw_in x y) : (((1089 * nI s) + (33 * (x + 16))) + y) + 16 = nI (1089 * s + yw_cl x y) := by
  obtain ⟨g1, g2, g3, g4⟩ := g
  obtain ⟨z, hz1, hz2⟩ : ∃ z : Int, x = mz_i z ∧ x.toInt = z := ⟨_, mz_of _, rfl⟩
  obtain ⟨w, hw1, hw2⟩ : ∃ z : Int, y = mz_i z ∧ y.toInt = z := ⟨_, mz_of _, rfl⟩
  unfold yw_cl
  rw [hz2, hw2, hz1, hw1, show (16 : Int32) = mz_i 16 from by decide, show (33 : Int32) = mz_i 33 from by decide, show (1089 : Int32) = mz_i 1089 from by decide, mz_nat, mz_add, mz_mul, mz_mul, mz_add, mz_add, mz_add, mz_nat]
  exact congrArg mz_i (by omega)
/-- the number of (x, y) in table s of the reference -/
def yw_ga (nu : Nat → Int32) (s : Nat) (x y : Int32) : Int32 := if -16 ≤ x.toInt ∧ x.toInt ≤ 16 ∧ -16 ≤ y.toInt ∧ y.toInt ≤ 16 then nu (1089 * s + yw_cl x y) else 0
theorem yw_ga_in {nu : Nat → Int32} {s : Nat} {x y : Int32} (g : yw_in x y) : yw_ga nu s x y = nu (1089 * s + yw_cl x y) := if_pos g
theorem yw_ga_out {nu : Nat → Int32} {s : Nat} {x y : Int32} (g : ¬ yw_in x y) : yw_ga nu s x y = 0 := if_neg g
theorem yw_ga_u {nu : Nat → Int32} {s : Nat} {x y v : Int32} (g : yw_in x y) (x' y' : Int32) : yw_ga (upd nu (1089 * s + yw_cl x y) v) s x' y' = if x' = x ∧ y' = y then v else yw_ga nu s x' y' := by
  by_cases g' : yw_in x' y'
  · rw [yw_ga_in g', yw_ga_in g']
    by_cases c : x' = x ∧ y' = y
    · rw [if_pos c, c.1, c.2, pk_us]
    · rw [if_neg c, pk_un]
      intro z
      apply c
      obtain ⟨g1, g2, g3, g4⟩ := g
      obtain ⟨k1, k2, k3, k4⟩ := g'
      unfold yw_cl at z
      exact ⟨mz_eq (by omega), mz_eq (by omega)⟩
  · rw [yw_ga_out g', yw_ga_out g', if_neg]
    rintro ⟨c1, c2⟩
    rw [c1, c2] at g'
    exact g' g
theorem yw_at {post : Int32 → Prop} {s : Nat} {x y : Int32} (hs : s < 2) (h : post (yw_ga nu s x y)) : wpY_at post (gt, (mz_p t), (mz_q t), (nI (2 * mz_h t)), fx, fy, hA, hB, nu, pr, sX, sY, tX, tY) (nI s) x y := by
  have e1 := yw_16.1
  have e2 := yw_16.2
  unfold wpY_at
  dsimp only
  by_cases g : yw_in x y
  · rw [yw_ga_in g] at h
    have l := yw_cl_lt g
    rw [yw_cl_eq g, nI_clamp (by omega)]
    obtain ⟨g1, g2, g3, g4⟩ := g
    exact br_f (by rw [mz_lt]; omega) (br_f (by rw [mz_lt]; omega) (br_f (by rw [mz_lt]; omega) (br_f (by rw [mz_lt]; omega) ⟨vp_in_nI (by omega) (by omega), h⟩)))
  · rw [yw_ga_out g] at h
    refine br_c (fun _ => h) (fun n1 => br_c (fun _ => h) (fun n2 => br_c (fun _ => h) (fun n3 => br_c (fun _ => h) (fun n4 => absurd ?_ g))))
    rw [mz_lt] at n1 n2 n3 n4
    exact ⟨by omega, by omega, by omega, by omega⟩
/-- the shifts and the tops, when all are laid -/
def yw_Sh (t : Nat) (sX sY : Nat → Int32) : Prop := ∀ k, k < 2 * mz_h t → sX k = mz_X t (mz_sw t k) 1 1 ∧ sY k = mz_Y t (mz_sw t k) 1 1
def yw_Tp (t a b : Nat) (tX tY : Nat → Int32) : Prop := ∀ k, k < 2 * mz_h t → tX k = mz_X t (mz_sw t k) (nI a + 1) (nI b + 1) ∧ tY k = mz_Y t (mz_sw t k) (nI a + 1) (nI b + 1)
theorem yw_due {post : Int32 → Prop} {a b : Nat} {u v : Int32} (ht : t < 4) (ha : a < 4) (hb : b < 4) (hT : yw_Tp t a b tX tY) (h : post (mz_A t a b u v)) : wpY_due post (gt, (mz_p t), (mz_q t), (nI (2 * mz_h t)), fx, fy, hA, hB, nu, pr, sX, sY, tX, tY) u v := by
  have h12 := xw_h12 ht
  unfold wpY_due
  dsimp only
  have key := mz_perm ht (fun k => mz_sg k * (if mz_X t k (nI a + 1) (nI b + 1) = u ∧ mz_Y t k (nI a + 1) (nI b + 1) = v then (1 : Int32) else 0))
  refine pk_loop (fun n i s => wY_due_5 post u v gt (mz_p t) (mz_q t) (nI (2 * mz_h t)) fx fy hA hB nu pr sX sY tX tY n s (nI i)) (fun i s => s = mz_s (fun k => mz_sg (mz_sw t k) * (if mz_X t (mz_sw t k) (nI a + 1) (nI b + 1) = u ∧ mz_Y t (mz_sw t k) (nI a + 1) (nI b + 1) = v then (1 : Int32) else 0)) i) (2 * mz_h t) 0 0 (by omega) rfl ?_ ?_
  · intro n s hs
    refine br_t (nI_le (Nat.le_refl _) (by omega)) ?_
    rw [hs, key]; exact h
  · intro n i s hi hs ih
    have hv : vp_in (nI i) 12 := vp_in_nI (by omega) (by omega)
    obtain ⟨t1, t2⟩ := hT i hi
    refine br_f (nI_ge hi (by omega)) ⟨hv, br_c (fun c1 => ⟨hv, br_c (fun c2 => yw_sg ht hi (fun x4 e4 => ?_)) (fun c2 x4 e4 => ?_)⟩) (fun c1 x4 e4 => ?_)⟩
    · rw [nI_clamp (by omega), t1] at c1
      rw [nI_clamp (by omega), t2] at c2
      rw [e4, nI_1]
      refine ih _ ?_
      rw [mz_s, mz_s_0, if_pos ⟨c1, c2⟩]
      · grind
      · intro l hl
        rw [if_neg, Int32.mul_zero]
        rintro ⟨d1, d2⟩
        have := mz_sw_inj (by omega) hi (mz_dist ht ha hb (mz_sw_lt (by omega)) (mz_sw_lt hi) (d1.trans c1.symm) (d2.trans c2.symm))
        omega
    · rw [nI_clamp (by omega), t2] at c2
      rw [e4, nI_1]
      refine ih _ ?_
      rw [hs, mz_s, if_neg (fun z => c2 z.2)]; grind
    · rw [nI_clamp (by omega), t1] at c1
      rw [e4, nI_1]
      refine ih _ ?_
      rw [hs, mz_s, if_neg (fun z => c1 z.1)]; grind
def yw_F (t : Nat) (nu : Nat → Int32) (s : Nat) (x y : Int32) (k : Nat) : Int32 := mz_sg k * yw_ga nu s (x + 1 - mz_X t k 1 1) (y + 1 - mz_Y t k 1 1)
def yw_nv (t a b : Nat) (nu : Nat → Int32) (s : Nat) (x y : Int32) : Int32 := mz_A t a b (x + 1) (y + 1) - (mz_s (yw_F t nu s x y) (2 * mz_h t) - yw_F t nu s x y 0)
theorem yw_solve {post : Int32 → Prop} {a b s : Nat} {x y : Int32} (ht : t < 4) (ha : a < 4) (hb : b < 4) (hs2 : s < 2) (hS : yw_Sh t sX sY) (hT : yw_Tp t a b tX tY) (h : post (yw_nv t a b nu s x y)) : wpY_solve post (gt, (mz_p t), (mz_q t), (nI (2 * mz_h t)), fx, fy, hA, hB, nu, pr, sX, sY, tX, tY) (nI s) x y := by
  have h12 := xw_h12 ht
  have hh := mz_hh t ht
  unfold wpY_solve
  dsimp only
  have key := mz_perm ht (yw_F t nu s x y)
  refine yw_due ht ha hb hT ?_
  refine pk_loop (fun n i z => wY_solve_15 post (nI s) x y gt (mz_p t) (mz_q t) (nI (2 * mz_h t)) fx fy hA hB nu pr sX sY tX tY n z (nI i)) (fun i z => z = mz_A t a b (x + 1) (y + 1) - (mz_s (fun k => yw_F t nu s x y (mz_sw t k)) i - yw_F t nu s x y 0)) (2 * mz_h t) 1 _ (by omega) ?_ ?_ ?_
  · rw [mz_s, mz_s, show mz_sw t 0 = 0 from if_pos (by omega)]; grind
  · intro n z hz
    refine br_t (nI_le (Nat.le_refl _) (by omega)) ?_
    rw [hz, key]; exact h
  · intro n i z hi hz ih
    have hv : vp_in (nI i) 12 := vp_in_nI (by omega) (by omega)
    obtain ⟨t1, t2⟩ := hS i hi
    refine br_f (nI_ge hi (by omega)) (yw_sg ht hi ⟨hv, hv, ?_⟩)
    rw [nI_clamp (by omega), t1, t2]
    refine yw_at hs2 (fun x4 e4 x5 e5 => ?_)
    rw [e5, nI_1]
    refine ih _ ?_
    rw [e4, hz, mz_s, show mz_sg (mz_sw t i) * yw_ga nu s (x + 1 - mz_X t (mz_sw t i) 1 1) (y + 1 - mz_Y t (mz_sw t i) 1 1) = yw_F t nu s x y (mz_sw t i) from rfl]; grind
end
