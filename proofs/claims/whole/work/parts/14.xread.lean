/-! the component: the motions, another type -/
section
variable {t : Nat} {ft f1 f2 f3 f4 : Int32} {aA aB cA cB fn cn : Nat → Int32}

theorem xw_lay {post : SX → Prop} (ht : t < 4) (h : ∀ aA aB cA cB, xw_M t aA aB cA cB → post (ft, (mz_p t), (mz_q t), (nI (2 * mz_h t)), f1, f2, f3, f4, aA, aB, cA, cB, fn, cn)) : wpX_layMotions post (ft, (mz_p t), (mz_q t), (nI (2 * mz_h t)), f1, f2, f3, f4, aA, aB, cA, cB, fn, cn) := by
  unfold wpX_layMotions
  dsimp only
  have h12 := xw_h12 ht
  have key := pk_loop (fun n i (s : (Nat → Int32) × (Nat → Int32) × (Nat → Int32) × (Nat → Int32)) => wX_layMotions_12 post ft (mz_p t) (mz_q t) (nI (2 * mz_h t)) f1 f2 f3 f4 n (mz_ma t i) (mz_mb t i) (mz_mc t i) (mz_md t i) (nI i) s.1 s.2.1 s.2.2.1 s.2.2.2 fn cn)
    (fun i s => ∀ k, k < i → s.1 k = mz_ma t k ∧ s.2.1 k = mz_mb t k ∧ s.2.2.1 k = mz_mc t k ∧ s.2.2.2 k = mz_md t k) (2 * mz_h t) 0 (aA, aB, cA, cB) (by omega) (fun k hk => by omega) ?_ ?_
  · obtain ⟨e1, e2, e3, e4⟩ := mz_id t ht
    rw [e1, e2, e3, e4] at key
    exact key
  · rintro n ⟨s1, s2, s3, s4⟩ hs
    exact br_t (nI_le (Nat.le_refl _) (by omega)) (h s1 s2 s3 s4 hs)
  · rintro n i ⟨s1, s2, s3, s4⟩ hi hs ih
    dsimp only at hs ⊢
    have hv : vp_in (nI i) 12 := vp_in_nI (by omega) (by omega)
    refine br_f (nI_ge hi (by omega)) ⟨hv, fun A1 E1 => ⟨hv, fun A2 E2 => ⟨hv, fun A3 E3 => ⟨hv, fun A4 E4 => ⟨by decide, ?_⟩⟩⟩⟩⟩
    rw [nI_clamp (by omega)] at E1 E2 E3 E4
    have hs' : ∀ k, k < i + 1 → A1 k = mz_ma t k ∧ A2 k = mz_mb t k ∧ A3 k = mz_mc t k ∧ A4 k = mz_md t k := by
      intro k hk
      rw [E1, E2, E3, E4]
      by_cases e : k = i
      · rw [e, pk_us, pk_us, pk_us, pk_us]; exact ⟨rfl, rfl, rfl, rfl⟩
      · rw [pk_un e, pk_un e, pk_un e, pk_un e]; exact hs k (by omega)
    rw [xw_rem2 (by omega)]
    by_cases c : i % 2 = 0
    · obtain ⟨q1, q2, q3, q4⟩ := mz_st0 t ht i hi c
      rw [c]
      refine br_t nI_0 (fun x3 e3 x4 e4 x1 e1 x2 e2 x5 e5 => ?_)
      rw [e1, e2, e3, e4, e5, nI_1, ← q1, ← q2, ← q3, ← q4]
      exact ih (A1, A2, A3, A4) hs'
    · obtain ⟨q1, q2, q3, q4⟩ := mz_st1 t ht i hi c
      refine br_f (nI_ne0 (by omega) (by omega)) (fun x1 e1 x2 e2 x3 e3 x4 e4 x5 e5 => ?_)
      rw [e1, e2, e3, e4, e5, nI_1, ← q1, ← q2, ← q3, ← q4]
      exact ih (A1, A2, A3, A4) hs'
theorem xw_mot : ∀ t, t < 3 → (4 + 2 * nI t : Int32) = nI (2 * mz_h t) := by decide +kernel
theorem xw_turn {post : SX → Prop} {a b : Nat} {g0 g1 g2 g3 : Int32} (ht : t < 4) (ha : a < 4) (hb : b < 4) (h : ∀ aA aB cA cB fn, xw_M t aA aB cA cB → (∀ x y, xw_ga fn x y = mz_T (mz_ix t a b) x y) → post (nI t, mz_p t, mz_q t, nI (2 * mz_h t), nI a, nI b, f3, f4, aA, aB, cA, cB, fn, cn)) :
    wpX_turnTo post (g0, g1, g2, g3, nI a, nI b, f3, f4, aA, aB, cA, cB, fn, cn) (nI t) := by
  unfold wpX_turnTo
  dsimp only
  intro p ep
  have ep' : p = mz_p t := ep
  subst ep'
  have core : wX_turnTo_21 post (nI t) (mz_q t) (nI t) (mz_p t) g2 g3 (nI a) (nI b) f3 f4 aA aB cA cB fn cn := by
    have c40 : wX_turnTo_40 post (nI (2 * mz_h t)) (nI t) (mz_p t) (mz_q t) g3 (nI a) (nI b) f3 f4 aA aB cA cB fn cn := by
      unfold wX_turnTo_40
      exact xw_lay ht (fun aA' aB' cA' cB' hM => xw_build_f ht ha hb hM (fun fn' hfn => h aA' aB' cA' cB' fn' hM hfn))
    unfold wX_turnTo_21
    by_cases c : t = 3
    · subst c; exact br_t rfl c40
    · refine br_f ?_ ?_
      · intro z
        have z' : nI t = nI 3 := z
        rw [nI_eq (by omega) (by omega)] at z'
        exact c z'
      · rw [xw_mot t (by omega)]; exact c40
  by_cases c : t = 0
  · subst c; exact br_t rfl core
  · refine br_f (nI_ne0 (by omega) (by omega)) ?_
    rw [show mz_q t = -1 from if_neg c] at core
    exact core
def xw_clt (x : Int32) : Nat := if x.toInt < 0 then 0 else if 3 < x.toInt then 3 else x.toInt.toNat
theorem xw_clt_lt (x : Int32) : xw_clt x < 4 := by unfold xw_clt; split; omega; split <;> omega
theorem xw_03 : (0 : Int32).toInt = 0 ∧ (3 : Int32).toInt = 3 := by decide
theorem xw_ofn {x : Int32} (h0 : 0 ≤ x.toInt) : x = nI x.toInt.toNat := by
  have : x.toInt < 2147483648 := by have := Int32.toInt_lt x; omega
  exact mz_eq (by rw [mz_nI_to (by omega)]; omega)
theorem xw_init {post : SX → Prop} (x : Int32) (h : ∀ aA aB cA cB fn, xw_M (xw_clt x) aA aB cA cB → (∀ x' y, xw_ga fn x' y = mz_T (mz_ix (xw_clt x) 0 0) x' y) → post (nI (xw_clt x), mz_p (xw_clt x), mz_q (xw_clt x), nI (2 * mz_h (xw_clt x)), nI 0, nI 0, 0, 0, aA, aB, cA, cB, fn, fun _ => 0)) :
    wpX_init post x := by
  have e0 := xw_03.1
  have e3 := xw_03.2
  have l := xw_clt_lt x
  by_cases c0 : 0 ≤ x
  · have c0' := c0
    rw [mz_le, e0] at c0'
    by_cases c3 : x ≤ 3
    · have c3' := c3
      rw [mz_le, e3] at c3'
      have e : xw_clt x = x.toInt.toNat := by unfold xw_clt; rw [if_neg (by omega), if_neg (by omega)]
      have ex := xw_ofn c0'
      refine br_t c0 (br_t c3 ?_)
      rw [← e] at ex
      have k := xw_turn (t := xw_clt x) (a := 0) (b := 0) (g0 := 0) (g1 := 0) (g2 := 0) (g3 := 0) (f3 := 0) (f4 := 0) (aA := fun _ => 0) (aB := fun _ => 0) (cA := fun _ => 0) (cB := fun _ => 0) (fn := fun _ => 0) (cn := fun _ => 0) (post := post) l (by decide) (by decide) h
      rw [← ex] at k
      exact k
    · have c3' := c3
      rw [mz_le, e3] at c3'
      have e : xw_clt x = 3 := by unfold xw_clt; rw [if_neg (by omega), if_pos (by omega)]
      refine br_t c0 (br_f c3 ?_)
      have k := xw_turn (t := xw_clt x) (a := 0) (b := 0) (g0 := 0) (g1 := 0) (g2 := 0) (g3 := 0) (f3 := 0) (f4 := 0) (aA := fun _ => 0) (aB := fun _ => 0) (cA := fun _ => 0) (cB := fun _ => 0) (fn := fun _ => 0) (cn := fun _ => 0) (post := post) l (by decide) (by decide) h
      rw [e] at k
      exact k
  · have c0' := c0
    rw [mz_le, e0] at c0'
    have e : xw_clt x = 0 := by unfold xw_clt; rw [if_pos (by omega)]
    refine br_f c0 (br_t (by decide) ?_)
    have k := xw_turn (t := xw_clt x) (a := 0) (b := 0) (g0 := 0) (g1 := 0) (g2 := 0) (g3 := 0) (f3 := 0) (f4 := 0) (aA := fun _ => 0) (aB := fun _ => 0) (cA := fun _ => 0) (cB := fun _ => 0) (fn := fun _ => 0) (cn := fun _ => 0) (post := post) l (by decide) (by decide) h
    rw [e] at k
    exact k
theorem xw_has {post : Int32 → Prop} {a b : Nat} (ha : a < 4) (hb : b < 4) (h : post 1) : wpX_hasTable post (nI a) (nI b) :=
  br_f (nI_pos (by omega)) (br_f (nI_nlt (a := 3) (b := a) (by omega) (by omega)) (br_f (nI_pos (by omega)) (br_f (nI_nlt (a := 3) (b := b) (by omega) (by omega)) h)))
def xw_hs (x y : Int32) : Prop := 0 ≤ x.toInt ∧ x.toInt ≤ 3 ∧ 0 ≤ y.toInt ∧ y.toInt ≤ 3
theorem xw_hasnt {post : Int32 → Prop} {x y : Int32} (g : ¬ xw_hs x y) (h : post 0) : wpX_hasTable post x y := by
  have e0 := xw_03.1
  have e3 := xw_03.2
  unfold wpX_hasTable
  rw [mz_lt, mz_lt, mz_lt, mz_lt, e0, e3]
  refine br_c (fun _ => h) (fun n1 => br_c (fun _ => h) (fun n2 => br_c (fun _ => h) (fun n3 => br_c (fun _ => h) (fun n4 => absurd ?_ g))))
  exact ⟨by omega, by omega, by omega, by omega⟩
theorem xw_40 : (-40 : Int32).toInt = -40 ∧ (40 : Int32).toInt = 40 := by decide
def xw_rc (x y : Int32) : Prop := -40 ≤ x.toInt ∧ x.toInt ≤ 40 ∧ -40 ≤ y.toInt ∧ y.toInt ≤ 40
theorem xw_re {post : Int32 → Prop} {x y : Int32} (g : xw_rc x y) (h : post 1) : wpX_inReach post x y := by
  obtain ⟨g1, g2, g3, g4⟩ := g
  have e1 := xw_40.1
  have e2 := xw_40.2
  exact br_f (by rw [mz_lt]; omega) (br_f (by rw [mz_lt]; omega) (br_f (by rw [mz_lt]; omega) (br_f (by rw [mz_lt]; omega) h)))
theorem xw_nre {post : Int32 → Prop} {x y : Int32} (g : ¬ xw_rc x y) (h : post 0) : wpX_inReach post x y := by
  have e1 := xw_40.1
  have e2 := xw_40.2
  unfold wpX_inReach
  rw [mz_lt, mz_lt, mz_lt, mz_lt, e1, e2]
  refine br_c (fun _ => h) (fun n1 => br_c (fun _ => h) (fun n2 => br_c (fun _ => h) (fun n3 => br_c (fun _ => h) (fun n4 => absurd ?_ g))))
  exact ⟨by omega, by omega, by omega, by omega⟩
theorem xw_hi {post : Int32 → Prop} {x y : Int32} (g : ¬ x < 0 ∧ ¬ y < 0) (h : post 1) : wpX_isHigh post x y := br_f g.1 (br_f g.2 h)
theorem xw_nhi {post : Int32 → Prop} {x y : Int32} (g : ¬ (¬ x < 0 ∧ ¬ y < 0)) (h : post 0) : wpX_isHigh post x y :=
  br_c (fun _ => h) (fun n1 => br_c (fun _ => h) (fun n2 => absurd ⟨n1, n2⟩ g))
theorem xw_size {post : Int32 → Prop} (h : post (mz_s fn 1681)) : wpX_size post (ft, (mz_p t), (mz_q t), (nI (2 * mz_h t)), f1, f2, f3, f4, aA, aB, cA, cB, fn, cn) := by
  unfold wpX_size
  dsimp only
  refine pk_loop (fun n i s => wX_size_4 post ft (mz_p t) (mz_q t) (nI (2 * mz_h t)) f1 f2 f3 f4 aA aB cA cB fn cn n s (nI i)) (fun i s => s = mz_s fn i) 1681 0 0 (by omega) rfl ?_ ?_
  · intro n s hs
    refine br_t (nI_le (a := 1681) (b := 1681) (by decide) (by decide)) ?_
    rw [hs]; exact h
  · intro n i s hi hs ih
    refine br_f (nI_ge (b := 1681) hi (by decide)) ⟨vp_in_nI hi (by decide), fun x1 e1 x2 e2 => ?_⟩
    rw [e2, nI_1]
    refine ih _ ?_
    rw [e1, nI_clamp (by omega), hs, mz_s]
/-- the greatest of the first n -/
def mz_mx (f : Nat → Int32) : Nat → Int32
  | 0 => 0
  | n + 1 => if f n ≤ mz_mx f n then mz_mx f n else f n
theorem xw_most {post : Int32 → Prop} (h : post (mz_mx fn 1681)) : wpX_most post (ft, (mz_p t), (mz_q t), (nI (2 * mz_h t)), f1, f2, f3, f4, aA, aB, cA, cB, fn, cn) := by
  unfold wpX_most
  dsimp only
  refine pk_loop (fun n i s => wX_most_4 post ft (mz_p t) (mz_q t) (nI (2 * mz_h t)) f1 f2 f3 f4 aA aB cA cB fn cn n s (nI i)) (fun i s => s = mz_mx fn i) 1681 0 0 (by omega) rfl ?_ ?_
  · intro n s hs
    refine br_t (nI_le (a := 1681) (b := 1681) (by decide) (by decide)) ?_
    rw [hs]; exact h
  · intro n i s hi hs ih
    refine br_f (nI_ge (b := 1681) hi (by decide)) ⟨vp_in_nI hi (by decide), br_c (fun c x2 e2 => ?_) (fun c => ⟨vp_in_nI hi (by decide), fun x1 e1 x2 e2 => ?_⟩)⟩
    · rw [nI_clamp (by omega)] at c
      rw [e2, nI_1]
      refine ih _ ?_
      rw [hs] at c ⊢
      rw [mz_mx, if_pos c]
    · rw [nI_clamp (by omega)] at c e1
      rw [e2, nI_1]
      refine ih _ ?_
      rw [hs] at c
      rw [e1, mz_mx, if_neg c]
theorem xw_orbit {post : Int32 → Prop} {x y : Int32} (ht : t < 4) (hM : xw_M t aA aB cA cB) (h0 : ¬ mz_os t x y (2 * mz_h t - 1) = 0) (h : post (nI (2 * mz_h t) / mz_os t x y (2 * mz_h t - 1))) :
    ∃ n, wX_orbit_15 post x y ft (mz_p t) (mz_q t) (nI (2 * mz_h t)) f1 f2 f3 f4 aA aB cA cB fn cn n 1 1 := by
  have h12 := xw_h12 ht
  have hh := mz_hh t ht
  refine pk_loop (fun n i s => wX_orbit_15 post x y ft (mz_p t) (mz_q t) (nI (2 * mz_h t)) f1 f2 f3 f4 aA aB cA cB fn cn n s (nI i)) (fun i s => s = mz_os t x y (i - 1) ∧ 1 ≤ i) (2 * mz_h t) 1 1 (by omega) ⟨by unfold mz_os; rw [mz_s]; grind, by omega⟩ ?_ ?_
  · rintro n s ⟨hs, _⟩
    refine br_t (nI_le (Nat.le_refl _) (by omega)) ?_
    rw [hs]; exact ⟨h0, h⟩
  · rintro n i s hi ⟨hs, h1⟩ ih
    have es : mz_os t x y (i + 1 - 1) = mz_os t x y (i - 1) + (if mz_X t i x y = x ∧ mz_Y t i x y = y then 1 else 0) := by
      obtain ⟨j, rfl⟩ : ∃ j, i = j + 1 := ⟨i - 1, by omega⟩
      rw [show j + 1 + 1 - 1 = j + 1 by omega, show j + 1 - 1 = j by omega]
      unfold mz_os
      rw [mz_s]; grind
    refine br_f (nI_ge hi (by omega)) (xw_mF ht hM hi (br_c (fun c1 => xw_mS ht hM hi (br_c (fun c2 x3 e3 x4 e4 => ?_) fun c2 x4 e4 => ?_)) fun c1 x4 e4 => ?_))
    · rw [e4, nI_1]
      refine ih _ ⟨?_, by omega⟩
      rw [e3, hs, es, if_pos ⟨c1, c2⟩]
    · rw [e4, nI_1]
      refine ih _ ⟨?_, by omega⟩
      rw [hs, es, if_neg (fun z => c2 z.2)]; grind
    · rw [e4, nI_1]
      refine ih _ ⟨?_, by omega⟩
      rw [hs, es, if_neg (fun z => c1 z.1)]; grind
theorem xw_high {post : Int32 → Prop} {x y : Int32} (ht : t < 4) (hM : xw_M t aA aB cA cB) (h : post (mz_hf t x y (fun k => k) (2 * mz_h t))) :
    ∃ n, wX_high_15 post x y ft (mz_p t) (mz_q t) (nI (2 * mz_h t)) f1 f2 f3 f4 aA aB cA cB fn cn n 0 0 := by
  have h12 := xw_h12 ht
  refine pk_loop (fun n i s => wX_high_15 post x y ft (mz_p t) (mz_q t) (nI (2 * mz_h t)) f1 f2 f3 f4 aA aB cA cB fn cn n s (nI i)) (fun i s => s = mz_hf t x y (fun k => k) i) (2 * mz_h t) 0 0 (by omega) rfl ?_ ?_
  · intro n s hs
    refine br_t (nI_le (Nat.le_refl _) (by omega)) ?_
    rw [hs]; exact h
  · intro n i s hi hs ih
    refine br_f (nI_ge hi (by omega)) (xw_mF ht hM hi (xw_mS ht hM hi ?_))
    by_cases c : ¬ mz_X t i x y < 0 ∧ ¬ mz_Y t i x y < 0
    · refine xw_hi c (br_f (by decide) (fun x3 e3 x4 e4 => ?_))
      rw [e4, nI_1]
      refine ih _ ?_
      rw [e3, mz_hf, if_pos c]
    · refine xw_nhi c (br_t rfl (fun x4 e4 => ?_))
      rw [e4, nI_1]
      refine ih _ ?_
      rw [hs, mz_hf, if_neg c]
end
