/-! the reference: what reads the first table -/
theorem yw_e_in {c : Nat} (hc : c < 1089) : yw_in (mz_ex c) (mz_ey c) ∧ yw_cl (mz_ex c) (mz_ey c) = c := by
  have e1 : (mz_ex c).toInt = (c / 33 : Nat) - 16 := mz_sub_to (by omega) (by omega)
  have e2 : (mz_ey c).toInt = (c % 33 : Nat) - 16 := mz_sub_to (by omega) (by omega)
  refine ⟨⟨by omega, by omega, by omega, by omega⟩, ?_⟩
  unfold yw_cl; omega
theorem yw_nu {nu : Nat → Int32} {s j c : Nat} (hT : ∀ x y, yw_ga nu s x y = mz_T j x y) (hc : c < 1089) : nu (1089 * s + c) = mz_T j (mz_ex c) (mz_ey c) := by
  rw [← hT, yw_ga_in (yw_e_in hc).1, (yw_e_in hc).2]
theorem yw_nu0 {nu : Nat → Int32} {j c : Nat} (hT : ∀ x y, yw_ga nu 0 x y = mz_T j x y) (hc : c < 1089) : nu c = mz_T j (mz_ex c) (mz_ey c) := by
  have := yw_nu hT hc
  rw [Nat.mul_zero, Nat.zero_add] at this; exact this
def yw_pt (e : Int32) (c : Nat) : Int32 := if e = 0 then mz_ex c else mz_ey c
def yw_a1 (j : Nat) (e k : Int32) (c : Nat) : Int32 := (if yw_pt e c = k then mz_T j (mz_ex c) (mz_ey c) else 0) - (if yw_pt e c = k + 2 then mz_T j (mz_ex c) (mz_ey c) else 0)
theorem yw_along_eq {t a b : Nat} (ht : t < 4) (ha : a < 4) (hb : b < 4) (e k : Int32) : mz_s (yw_a1 (mz_ix t a b) e k) 1089 = mz_ln (mz_ix t a b) e k - mz_ln (mz_ix t a b) e (k + 2) := by
  unfold yw_a1 mz_ln
  rw [mz_s_sub]
  by_cases c : e = 0
  · rw [if_pos c, if_pos c, ← mz_row ht ha hb, ← mz_row ht ha hb]
    unfold yw_pt
    simp only [if_pos c]
  · rw [if_neg c, if_neg c, ← mz_col ht ha hb, ← mz_col ht ha hb]
    unfold yw_pt
    simp only [if_neg c]
def yw_cn (j c : Nat) : Int32 := if mz_T j (mz_ex c) (mz_ey c) = 0 then 0 else 1
section
variable {t : Nat} {gt fx fy : Int32} {hA hB nu pr sX sY tX tY : Nat → Int32}

variable {a b : Nat}
theorem yw_far {post : Int32 → Prop} {x y : Int32} (g : ¬ xw_rc x y) (h : post 1) : wpY_isFar post (gt, (mz_p t), (mz_q t), (nI (2 * mz_h t)), fx, fy, hA, hB, nu, pr, sX, sY, tX, tY) x y := by
  have e1 := xw_40.1
  have e2 := xw_40.2
  unfold wpY_isFar
  dsimp only
  rw [mz_lt, mz_lt, mz_lt, mz_le, e1, e2]
  refine br_c (fun _ => h) (fun n1 => br_c (fun _ => h) (fun n2 => br_c (fun _ => h) (fun n3 => br_c (fun n4 => absurd ?_ g) (fun _ => h))))
  exact ⟨by omega, by omega, by omega, by omega⟩
theorem yw_near {post : Int32 → Prop} {x y : Int32} (g : xw_rc x y) (h : post 0) : wpY_isFar post (gt, (mz_p t), (mz_q t), (nI (2 * mz_h t)), fx, fy, hA, hB, nu, pr, sX, sY, tX, tY) x y := by
  obtain ⟨g1, g2, g3, g4⟩ := g
  have e1 := xw_40.1
  have e2 := xw_40.2
  unfold wpY_isFar
  dsimp only
  exact br_f (by rw [mz_lt]; omega) (br_f (by rw [mz_lt]; omega) (br_f (by rw [mz_lt]; omega) (br_t (by rw [mz_le]; omega) h)))
theorem yw_number {post : Int32 → SY → Prop} {x y : Int32} (ht : t < 4) (ha : a < 4) (hb : b < 4) (hhA : hA 0 = nI a) (hhB : hB 0 = nI b) (g : xw_rc x y) (h : ∀ fx' fy' nu' pr' sX' sY' tX' tY', post (mz_T (mz_ix t a b) x y) (gt, (mz_p t), (mz_q t), (nI (2 * mz_h t)), fx', fy', hA, hB, nu', pr', sX', sY', tX', tY')) : wpY_number post (gt, (mz_p t), (mz_q t), (nI (2 * mz_h t)), fx, fy, hA, hB, nu, pr, sX, sY, tX, tY) x y := by
  unfold wpY_number
  dsimp only
  refine yw_near g (br_t rfl ?_)
  refine yw_make (s0 := 0) ht ha hb (by decide) hhA hhB (fun fx' fy' nu' sX' sY' tX' tY' hS hT hO => ?_)
  refine yw_at (s := 0) (by decide) ?_
  rw [hT]; exact h _ _ _ _ _ _ _ _
theorem yw_size {post : Int32 → SY → Prop} (ht : t < 4) (ha : a < 4) (hb : b < 4) (hhA : hA 0 = nI a) (hhB : hB 0 = nI b) (h : ∀ fx' fy' nu' pr' sX' sY' tX' tY', post (mz_s (fun c => mz_T (mz_ix t a b) (mz_ex c) (mz_ey c)) 1089) (gt, (mz_p t), (mz_q t), (nI (2 * mz_h t)), fx', fy', hA, hB, nu', pr', sX', sY', tX', tY')) : wpY_size post (gt, (mz_p t), (mz_q t), (nI (2 * mz_h t)), fx, fy, hA, hB, nu, pr, sX, sY, tX, tY) := by
  unfold wpY_size
  dsimp only
  refine yw_make (s0 := 0) ht ha hb (by decide) hhA hhB (fun fx' fy' nu' sX' sY' tX' tY' hS hT hO => ?_)
  refine pk_loop (fun n i s => wY_size_9 post gt (mz_p t) (mz_q t) (nI (2 * mz_h t)) fx' fy' hA hB nu' pr sX' sY' tX' tY' n s (nI i)) (fun i s => s = mz_s (fun c => mz_T (mz_ix t a b) (mz_ex c) (mz_ey c)) i) 1089 0 0 (by omega) rfl ?_ ?_
  · intro n s hs
    refine br_t (nI_le (a := 1089) (b := 1089) (by decide) (by decide)) ?_
    rw [hs]; exact h _ _ _ _ _ _ _ _
  · intro n i s hi hs ih
    refine br_f (nI_ge (b := 1089) hi (by decide)) ⟨vp_in_nI (by omega) (by decide), fun x1 e1 x2 e2 => ?_⟩
    rw [e2, nI_1]
    refine ih _ ?_
    rw [e1, nI_clamp (by omega), hs, yw_nu0 hT hi, mz_s]
theorem yw_most {post : Int32 → SY → Prop} (ht : t < 4) (ha : a < 4) (hb : b < 4) (hhA : hA 0 = nI a) (hhB : hB 0 = nI b) (h : ∀ fx' fy' nu' pr' sX' sY' tX' tY', post (mz_mx (fun c => mz_T (mz_ix t a b) (mz_ex c) (mz_ey c)) 1089) (gt, (mz_p t), (mz_q t), (nI (2 * mz_h t)), fx', fy', hA, hB, nu', pr', sX', sY', tX', tY')) : wpY_most post (gt, (mz_p t), (mz_q t), (nI (2 * mz_h t)), fx, fy, hA, hB, nu, pr, sX, sY, tX, tY) := by
  unfold wpY_most
  dsimp only
  refine yw_make (s0 := 0) ht ha hb (by decide) hhA hhB (fun fx' fy' nu' sX' sY' tX' tY' hS hT hO => ?_)
  refine pk_loop (fun n i s => wY_most_9 post gt (mz_p t) (mz_q t) (nI (2 * mz_h t)) fx' fy' hA hB nu' pr sX' sY' tX' tY' n s (nI i)) (fun i s => s = mz_mx (fun c => mz_T (mz_ix t a b) (mz_ex c) (mz_ey c)) i) 1089 0 0 (by omega) rfl ?_ ?_
  · intro n s hs
    refine br_t (nI_le (a := 1089) (b := 1089) (by decide) (by decide)) ?_
    rw [hs]; exact h _ _ _ _ _ _ _ _
  · intro n i s hi hs ih
    have hv : vp_in (nI i) 2178 := vp_in_nI (by omega) (by decide)
    refine br_f (nI_ge (b := 1089) hi (by decide)) ⟨hv, br_c (fun c x2 e2 => ?_) (fun c => ⟨hv, fun x1 e1 x2 e2 => ?_⟩)⟩
    · rw [nI_clamp (by omega), yw_nu0 hT hi] at c
      rw [e2, nI_1]
      refine ih _ ?_
      rw [hs] at c ⊢
      rw [mz_mx, if_pos c]
    · rw [nI_clamp (by omega), yw_nu0 hT hi] at c e1
      rw [e2, nI_1]
      refine ih _ ?_
      rw [hs] at c
      rw [e1, mz_mx, if_neg c]
theorem yw_count {post : Int32 → SY → Prop} {s0 : Nat} (ht : t < 4) (ha : a < 4) (hb : b < 4) (hs0 : s0 < 2) (hhA : hA s0 = nI a) (hhB : hB s0 = nI b) (h : ∀ fx' fy' nu' pr' sX' sY' tX' tY', post (mz_s (fun c => yw_cn (mz_ix t a b) c) 1089) (gt, (mz_p t), (mz_q t), (nI (2 * mz_h t)), fx', fy', hA, hB, nu', pr', sX', sY', tX', tY')) : wpY_countNumbers post (gt, (mz_p t), (mz_q t), (nI (2 * mz_h t)), fx, fy, hA, hB, nu, pr, sX, sY, tX, tY) (nI s0) := by
  unfold wpY_countNumbers
  dsimp only
  refine yw_make ht ha hb hs0 hhA hhB (fun fx' fy' nu' sX' sY' tX' tY' hS hT hO => ?_)
  refine pk_loop (fun n i s => wY_countNumbers_9 post (nI s0) gt (mz_p t) (mz_q t) (nI (2 * mz_h t)) fx' fy' hA hB nu' pr sX' sY' tX' tY' n s (nI i)) (fun i s => s = mz_s (fun c => yw_cn (mz_ix t a b) c) i) 1089 0 0 (by omega) rfl ?_ ?_
  · intro n s hs
    refine br_t (nI_le (a := 1089) (b := 1089) (by decide) (by decide)) ?_
    rw [hs]; exact h _ _ _ _ _ _ _ _
  · intro n i s hi hs ih
    have ei : 1089 * nI s0 + nI i = nI (1089 * s0 + i) := by rw [← nI_add, ← pk_mul]; rfl
    refine br_f (nI_ge (b := 1089) hi (by decide)) ?_
    rw [ei, nI_clamp (by omega), yw_nu hT hi]
    refine ⟨vp_in_nI (by omega) (by decide), br_c (fun c x3 e3 => ?_) (fun c x2 e2 x3 e3 => ?_)⟩
    · rw [e3, nI_1]
      refine ih _ ?_
      rw [hs, mz_s, yw_cn, if_pos c]; grind
    · rw [e3, nI_1]
      refine ih _ ?_
      rw [e2, hs, mz_s, yw_cn, if_neg c]
theorem yw_along {post : Int32 → SY → Prop} {e k : Int32} (ht : t < 4) (ha : a < 4) (hb : b < 4) (hhA : hA 0 = nI a) (hhB : hB 0 = nI b) (h : ∀ fx' fy' nu' pr' sX' sY' tX' tY', post (mz_s (yw_a1 (mz_ix t a b) e k) 1089) (gt, (mz_p t), (mz_q t), (nI (2 * mz_h t)), fx', fy', hA, hB, nu', pr', sX', sY', tX', tY')) :
    wpY_make (fun u => match u with | (u1, u2, u3, u4, u5, u6, u7, u8, u9, u10, u11, u12, u13, u14) => ∃ n34 : Nat, wY_along_34 post e k u1 u2 u3 u4 u5 u6 u7 u8 u9 u10 u11 u12 u13 u14 n34 0 0) (gt, (mz_p t), (mz_q t), (nI (2 * mz_h t)), fx, fy, hA, hB, nu, pr, sX, sY, tX, tY) 0 := by
  refine yw_make (s0 := 0) ht ha hb (by decide) hhA hhB (fun fx' fy' nu' sX' sY' tX' tY' hS hT hO => ?_)
  have h2 : ¬ (2 : Int32) = 0 := by decide
  refine pk_loop (fun n i s => wY_along_34 post e k gt (mz_p t) (mz_q t) (nI (2 * mz_h t)) fx' fy' hA hB nu' pr sX' sY' tX' tY' n s (nI i)) (fun i s => s = mz_s (yw_a1 (mz_ix t a b) e k) i) 1089 0 0 (by omega) rfl ?_ ?_
  · intro n s hs
    refine br_t (nI_le (a := 1089) (b := 1089) (by decide) (by decide)) ?_
    rw [hs]; exact h _ _ _ _ _ _ _ _
  · intro n i s hi hs ih
    have hv : vp_in (nI i) 2178 := vp_in_nI (by omega) (by decide)
    have core : ∀ z0 : Int32, z0 - 16 = yw_pt e i → wY_along_59 post (wY_along_34 post e k gt (mz_p t) (mz_q t) (nI (2 * mz_h t)) fx' fy' hA hB nu' pr sX' sY' tX' tY' n) e k s (nI i) z0 gt (mz_p t) (mz_q t) (nI (2 * mz_h t)) fx' fy' hA hB nu' pr sX' sY' tX' tY' := by
      intro z0 hz
      unfold wY_along_59
      intro x5 e5
      rw [hz] at e5
      subst e5
      refine br_c (fun c => ⟨hv, fun x3 e3 x4 e4 => ?_⟩) (fun c => br_c (fun c2 => ⟨hv, fun x3 e3 x4 e4 => ?_⟩) (fun c2 x4 e4 => ?_))
      · rw [e4, nI_1]
        refine ih _ ?_
        rw [nI_clamp (by omega), yw_nu0 hT hi] at e3
        rw [e3, hs, mz_s, yw_a1, if_pos c, if_neg (fun z => h2 (by rw [c] at z; grind))]; grind
      · rw [e4, nI_1]
        refine ih _ ?_
        rw [nI_clamp (by omega), yw_nu0 hT hi] at e3
        rw [e3, hs, mz_s, yw_a1, if_neg c, if_pos c2]; grind
      · rw [e4, nI_1]
        refine ih _ ?_
        rw [hs, mz_s, yw_a1, if_neg c, if_neg c2]; grind
    refine br_f (nI_ge (b := 1089) hi (by decide)) (br_c (fun c => ⟨by decide, core _ ?_⟩) (fun c => ⟨by decide, core _ ?_⟩))
    · rw [show yw_pt e i = mz_ex i from if_pos c, show nI i / 33 = nI (i / 33) from pk_div (d := 33) (by omega) (by omega) (by omega)]; rfl
    · rw [show yw_pt e i = mz_ey i from if_neg c, show nI i - nI i / 33 * 33 = nI (i % 33) from pk_rem (d := 33) (by omega) (by omega) (by omega)]; rfl
theorem yw_same {post : Int32 → SY → Prop} {k l : Nat} {x y : Int32} (ht : t < 4) (hk : k < 2 * mz_h t) (hl : l < 2 * mz_h t)
    (h : ∀ fx' fy', post (if mz_X t (mz_sw t k) x y = mz_X t (mz_sw t l) x y ∧ mz_Y t (mz_sw t k) x y = mz_Y t (mz_sw t l) x y then 1 else 0) (gt, (mz_p t), (mz_q t), (nI (2 * mz_h t)), fx', fy', hA, hB, nu, pr, sX, sY, tX, tY)) : wpY_same post (gt, (mz_p t), (mz_q t), (nI (2 * mz_h t)), fx, fy, hA, hB, nu, pr, sX, sY, tX, tY) (nI k) (nI l) x y := by
  unfold wpY_same
  dsimp only
  refine yw_move ht hk ?_
  refine yw_move ht hl ?_
  refine br_c (fun c1 => br_c (fun c2 => ?_) (fun c2 => ?_)) (fun c1 => ?_)
  · rw [if_pos ⟨c1.symm, c2.symm⟩] at h; exact h _ _
  · rw [if_neg (fun z => c2 z.2.symm)] at h; exact h _ _
  · rw [if_neg (fun z => c1 z.1.symm)] at h; exact h _ _
theorem yw_orbit {post : Int32 → SY → Prop} {x y : Int32} (ht : t < 4) (g : xw_rc x y)
    (h : ∀ fx' fy', post (mz_s (fun k => if mz_fr t x y k k = true then 1 else 0) (2 * mz_h t)) (gt, (mz_p t), (mz_q t), (nI (2 * mz_h t)), fx', fy', hA, hB, nu, pr, sX, sY, tX, tY)) : wpY_orbit post (gt, (mz_p t), (mz_q t), (nI (2 * mz_h t)), fx, fy, hA, hB, nu, pr, sX, sY, tX, tY) x y := by
  have h12 := xw_h12 ht
  unfold wpY_orbit
  dsimp only
  refine yw_near g (br_t rfl ?_)
  refine pk_loop (fun n i (s : Int32 × Int32 × Int32) => wY_orbit_16 post x y n s.1 (nI i) gt (mz_p t) (mz_q t) (nI (2 * mz_h t)) s.2.1 s.2.2 hA hB nu pr sX sY tX tY) (fun i s => s.1 = mz_s (fun k => if mz_fr t x y k k = true then 1 else 0) i) (2 * mz_h t) 0 (0, fx, fy) (by omega) rfl ?_ ?_
  · rintro n ⟨s1, s2, s3⟩ hs
    dsimp only at hs ⊢
    refine br_t (nI_le (Nat.le_refl _) (by omega)) ?_
    rw [hs]; exact h _ _
  · rintro n k ⟨s1, s2, s3⟩ hk hs ih
    dsimp only at hs ⊢
    refine br_f (nI_ge hk (by omega)) ?_
    refine pk_loop (fun m l (z : Int32 × Int32 × Int32) => wY_orbit_31 post (wY_orbit_16 post x y n) x y s1 (nI k) m z.1 (nI l) gt (mz_p t) (mz_q t) (nI (2 * mz_h t)) z.2.1 z.2.2 hA hB nu pr sX sY tX tY) (fun l z => z.1 = if mz_fr t x y k l = true then 1 else 0) k 0 (1, s2, s3) (by omega) rfl ?_ ?_
    · rintro m ⟨z1, z2, z3⟩ hz
      dsimp only at hz ⊢
      refine br_t (nI_le (Nat.le_refl _) (by omega)) ?_
      by_cases c : mz_fr t x y k k = true
      · rw [if_pos c] at hz
        refine br_f (by rw [hz]; decide) (fun x3 e3 x4 e4 => ?_)
        rw [e4, nI_1]
        refine ih (x3, z2, z3) ?_
        dsimp only
        rw [e3, hs, mz_s, if_pos c]
      · rw [if_neg c] at hz
        refine br_t hz (fun x4 e4 => ?_)
        rw [e4, nI_1]
        refine ih (s1, z2, z3) ?_
        dsimp only
        rw [hs, mz_s, if_neg c]; grind
    · rintro m l ⟨z1, z2, z3⟩ hl hz ih2
      dsimp only at hz ⊢
      refine br_f (nI_ge hl (by omega)) ?_
      have ef : mz_fr t x y k (l + 1) = cond (!(decide (mz_X t (mz_sw t k) x y = mz_X t (mz_sw t l) x y ∧ mz_Y t (mz_sw t k) x y = mz_Y t (mz_sw t l) x y))) (mz_fr t x y k l) false := rfl
      by_cases c : mz_fr t x y k l = true
      · rw [if_pos c] at hz
        refine br_f (by rw [hz]; decide) (yw_same ht hk (by omega) (fun fx' fy' => ?_))
        by_cases d : mz_X t (mz_sw t k) x y = mz_X t (mz_sw t l) x y ∧ mz_Y t (mz_sw t k) x y = mz_Y t (mz_sw t l) x y
        · rw [if_pos d]
          refine br_f (by decide) (fun x6 e6 => ?_)
          rw [e6, nI_1]
          refine ih2 (0, fx', fy') ?_
          rw [ef, decide_eq_true d]; rfl
        · rw [if_neg d]
          refine br_t rfl (fun x6 e6 => ?_)
          rw [e6, nI_1]
          refine ih2 (1, fx', fy') ?_
          rw [ef, decide_eq_false d, c]; rfl
      · rw [if_neg c] at hz
        refine br_t hz (fun x6 e6 => ?_)
        rw [e6, nI_1]
        refine ih2 (0, z2, z3) ?_
        rw [ef, Bool.eq_false_iff.mpr c]
        cases decide (mz_X t (mz_sw t k) x y = mz_X t (mz_sw t l) x y ∧ mz_Y t (mz_sw t k) x y = mz_Y t (mz_sw t l) x y) <;> rfl
theorem yw_high {post : Int32 → SY → Prop} {x y : Int32} (ht : t < 4) (g : xw_rc x y)
    (h : ∀ fx' fy', post (mz_hf t x y (mz_sw t) (2 * mz_h t)) (gt, (mz_p t), (mz_q t), (nI (2 * mz_h t)), fx', fy', hA, hB, nu, pr, sX, sY, tX, tY)) : wpY_high post (gt, (mz_p t), (mz_q t), (nI (2 * mz_h t)), fx, fy, hA, hB, nu, pr, sX, sY, tX, tY) x y := by
  have h12 := xw_h12 ht
  unfold wpY_high
  dsimp only
  refine yw_near g (br_t rfl ?_)
  refine pk_loop (fun n i (s : Int32 × Int32 × Int32) => wY_high_16 post x y n s.1 (nI i) gt (mz_p t) (mz_q t) (nI (2 * mz_h t)) s.2.1 s.2.2 hA hB nu pr sX sY tX tY) (fun i s => s.1 = mz_hf t x y (mz_sw t) i) (2 * mz_h t) 0 (0, fx, fy) (by omega) rfl ?_ ?_
  · rintro n ⟨s1, s2, s3⟩ hs
    dsimp only at hs ⊢
    refine br_t (nI_le (Nat.le_refl _) (by omega)) ?_
    rw [hs]; exact h _ _
  · rintro n k ⟨s1, s2, s3⟩ hk hs ih
    dsimp only at hs ⊢
    refine br_f (nI_ge hk (by omega)) (yw_move ht hk ?_)
    refine br_c (fun c x4 e4 => ?_) (fun c => br_c (fun c2 x4 e4 => ?_) (fun c2 x3 e3 x4 e4 => ?_))
    · rw [e4, nI_1]
      refine ih (s1, _, _) ?_
      dsimp only
      rw [hs, mz_hf, if_neg (fun z => z.1 c)]
    · rw [e4, nI_1]
      refine ih (s1, _, _) ?_
      dsimp only
      rw [hs, mz_hf, if_neg (fun z => z.2 c2)]
    · rw [e4, nI_1]
      refine ih (x3, _, _) ?_
      dsimp only
      rw [e3, mz_hf, if_pos ⟨c, c2⟩]
end
