/-! the relation, and the owed statements -/
/-- one type, the same two high weights; the component holds the motions and the first table, the reference makes its own anew -/
def i_Rel (k : Nat) (u : SX) (v : SY) : Prop :=
  ∃ (t a b c d : Nat) (aA aB cA cB fn cn : Nat → Int32) (fx fy : Int32) (hA hB nu pr sX sY tX tY : Nat → Int32),
    (t < 4 ∧ a < 4 ∧ b < 4 ∧ c < 4 ∧ d < 4) ∧ xw_M t aA aB cA cB ∧ (∀ x y, xw_ga fn x y = mz_T (mz_ix t a b) x y)
      ∧ (hA 0 = nI a ∧ hB 0 = nI b ∧ hA 1 = nI c ∧ hB 1 = nI d)
      ∧ u = (nI t, mz_p t, mz_q t, nI (2 * mz_h t), nI a, nI b, nI c, nI d, aA, aB, cA, cB, fn, cn) ∧ v = (nI t, mz_p t, mz_q t, nI (2 * mz_h t), fx, fy, hA, hB, nu, pr, sX, sY, tX, tY)
theorem i_up {k : Nat} {u : SX} {v : SY} (h : i_Rel k u v) : i_Rel (k + 3) u v := h
theorem zw_R {k t a b c d : Nat} {aA aB cA cB fn cn : Nat → Int32} {fx fy : Int32} {hA hB nu pr sX sY tX tY : Nat → Int32} (ht : t < 4) (ha : a < 4) (hb : b < 4) (hc : c < 4) (hd : d < 4) (hM : xw_M t aA aB cA cB)
    (hT : ∀ x y, xw_ga fn x y = mz_T (mz_ix t a b) x y) (h1 : hA 0 = nI a) (h2 : hB 0 = nI b) (h3 : hA 1 = nI c) (h4 : hB 1 = nI d) :
    i_Rel k (nI t, mz_p t, mz_q t, nI (2 * mz_h t), nI a, nI b, nI c, nI d, aA, aB, cA, cB, fn, cn) (nI t, mz_p t, mz_q t, nI (2 * mz_h t), fx, fy, hA, hB, nu, pr, sX, sY, tX, tY) :=
  ⟨t, a, b, c, d, aA, aB, cA, cB, fn, cn, fx, fy, hA, hB, nu, pr, sX, sY, tX, tY, ⟨ht, ha, hb, hc, hd⟩, hM, hT, ⟨h1, h2, h3, h4⟩, rfl, rfl⟩
theorem i_vc0 (k0 : Int32) : wpX_init (fun u => wpY_init (fun v => i_Rel 1 u v) k0) k0 := by
  refine xw_init k0 (fun aA aB cA cB fn hM hT => ?_)
  refine yw_init k0 ?_
  exact zw_R (a := 0) (b := 0) (c := 0) (d := 0) (xw_clt_lt k0) (by decide) (by decide) (by decide) (by decide) hM hT rfl rfl rfl rfl
theorem i_vc_type {k : Nat} {u : SX} {v : SY} (I : i_Rel k u v) (hk : k + 3 ≤ 1537) (v1 : Int32) : wpX_type (fun r u' => wpY_type (fun r' v' => r' = r ∧ i_Rel (k + 3) u' v') v v1) u v1 := by
  obtain ⟨t, a, b, c, d, aA, aB, cA, cB, fn, cn, fx, fy, hA, hB, nu, pr, sX, sY, tX, tY, ⟨ht, ha, hb, hc, hd⟩, hM, hT, ⟨h1, h2, h3, h4⟩, rfl, rfl⟩ := I
  have e0 := xw_03.1
  have e3 := xw_03.2
  unfold wpX_type
  dsimp only
  refine br_c (fun n1 => ?_) (fun n1 => br_c (fun n2 => ?_) (fun n2 => ?_))
  · unfold wpY_type
    dsimp only
    exact br_t n1 ⟨rfl, zw_R ht ha hb hc hd hM hT h1 h2 h3 h4⟩
  · have n1' := n1
    have n2' := n2
    rw [mz_lt, e0] at n1'
    rw [mz_le, e3] at n2'
    have ex := xw_ofn (x := v1) (by omega)
    have hl : v1.toInt.toNat < 4 := by omega
    generalize v1.toInt.toNat = t' at ex hl
    subst ex
    refine xw_turn hl ha hb (fun aA' aB' cA' cB' fn' hM' hT' => ?_)
    unfold wpY_type
    dsimp only
    refine br_f n1 (br_t n2 (yw_choose hl ?_))
    exact ⟨rfl, zw_R hl ha hb hc hd hM' hT' h1 h2 h3 h4⟩
  · unfold wpY_type
    dsimp only
    exact br_f n1 (br_f n2 ⟨rfl, zw_R ht ha hb hc hd hM hT h1 h2 h3 h4⟩)
theorem i_vc_first {k : Nat} {u : SX} {v : SY} (I : i_Rel k u v) (hk : k + 3 ≤ 1537) (v1 : Int32) (v2 : Int32) : wpX_first (fun r u' => wpY_first (fun r' v' => r' = r ∧ i_Rel (k + 3) u' v') v v1 v2) u v1 v2 := by
  obtain ⟨t, a, b, c, d, aA, aB, cA, cB, fn, cn, fx, fy, hA, hB, nu, pr, sX, sY, tX, tY, ⟨ht, ha, hb, hc, hd⟩, hM, hT, ⟨h1, h2, h3, h4⟩, rfl, rfl⟩ := I
  unfold wpX_first
  dsimp only
  by_cases g : xw_hs v1 v2
  · obtain ⟨g1, g2, g3, g4⟩ := g
    have ex := xw_ofn g1
    have ey := xw_ofn g3
    have hl1 : v1.toInt.toNat < 4 := by omega
    have hl2 : v2.toInt.toNat < 4 := by omega
    generalize v1.toInt.toNat = a' at ex hl1
    generalize v2.toInt.toNat = b' at ey hl2
    subst ex ey
    refine xw_has hl1 hl2 (br_f (by decide) ?_)
    refine xw_build_f ht hl1 hl2 hM (fun fn' hT' => ?_)
    unfold wpY_first
    dsimp only
    refine yw_take (s0 := 0) ht hl1 hl2 (by decide) (fun fx' fy' nu' pr' sX' sY' tX' tY' => ?_)
    exact ⟨rfl, zw_R (hA := upd hA 0 (nI a')) (hB := upd hB 0 (nI b')) ht hl1 hl2 hc hd hM hT' pk_us pk_us ((pk_un (j := 1) (k := 0) (by decide)).trans h3) ((pk_un (j := 1) (k := 0) (by decide)).trans h4)⟩
  · refine xw_hasnt g (br_t rfl ?_)
    unfold wpY_first
    dsimp only
    exact yw_taken g ⟨rfl, zw_R ht ha hb hc hd hM hT h1 h2 h3 h4⟩
theorem i_vc_second {k : Nat} {u : SX} {v : SY} (I : i_Rel k u v) (hk : k + 3 ≤ 1537) (v1 : Int32) (v2 : Int32) : wpX_second (fun r u' => wpY_second (fun r' v' => r' = r ∧ i_Rel (k + 3) u' v') v v1 v2) u v1 v2 := by
  obtain ⟨t, a, b, c, d, aA, aB, cA, cB, fn, cn, fx, fy, hA, hB, nu, pr, sX, sY, tX, tY, ⟨ht, ha, hb, hc, hd⟩, hM, hT, ⟨h1, h2, h3, h4⟩, rfl, rfl⟩ := I
  unfold wpX_second
  dsimp only
  by_cases g : xw_hs v1 v2
  · obtain ⟨g1, g2, g3, g4⟩ := g
    have ex := xw_ofn g1
    have ey := xw_ofn g3
    have hl1 : v1.toInt.toNat < 4 := by omega
    have hl2 : v2.toInt.toNat < 4 := by omega
    generalize v1.toInt.toNat = a' at ex hl1
    generalize v2.toInt.toNat = b' at ey hl2
    subst ex ey
    refine xw_has hl1 hl2 (br_f (by decide) ?_)
    refine xw_build_c ht hl1 hl2 hM (fun fn' hT' => ?_)
    unfold wpY_second
    dsimp only
    refine yw_take (s0 := 1) ht hl1 hl2 (by decide) (fun fx' fy' nu' pr' sX' sY' tX' tY' => ?_)
    exact ⟨rfl, zw_R (hA := upd hA 1 (nI a')) (hB := upd hB 1 (nI b')) ht ha hb hl1 hl2 hM hT ((pk_un (j := 0) (k := 1) (by decide)).trans h1) ((pk_un (j := 0) (k := 1) (by decide)).trans h2) pk_us pk_us⟩
  · refine xw_hasnt g (br_t rfl ?_)
    unfold wpY_second
    dsimp only
    exact yw_taken g ⟨rfl, zw_R ht ha hb hc hd hM hT h1 h2 h3 h4⟩
theorem i_vc_number {k : Nat} {u : SX} {v : SY} (I : i_Rel k u v) (hk : k + 3 ≤ 1537) (v1 : Int32) (v2 : Int32) : wpX_number (fun r => wpY_number (fun r' v' => r' = r ∧ i_Rel (k + 3) u v') v v1 v2) u v1 v2 := by
  obtain ⟨t, a, b, c, d, aA, aB, cA, cB, fn, cn, fx, fy, hA, hB, nu, pr, sX, sY, tX, tY, ⟨ht, ha, hb, hc, hd⟩, hM, hT, ⟨h1, h2, h3, h4⟩, rfl, rfl⟩ := I
  unfold wpX_number
  dsimp only
  by_cases g : xw_rc v1 v2
  · refine xw_re g (br_f (by decide) (xw_at_f ?_))
    exact yw_number ht ha hb h1 h2 g (fun fx' fy' nu' pr' sX' sY' tX' tY' => ⟨(hT v1 v2).symm, zw_R ht ha hb hc hd hM hT h1 h2 h3 h4⟩)
  · unfold wpY_number
    dsimp only
    exact xw_nre g (br_t rfl (yw_far g (br_f (by decide) ⟨rfl, zw_R ht ha hb hc hd hM hT h1 h2 h3 h4⟩)))
theorem i_vc_size {k : Nat} {u : SX} {v : SY} (I : i_Rel k u v) (hk : k + 3 ≤ 1537) : wpX_size (fun r => wpY_size (fun r' v' => r' = r ∧ i_Rel (k + 3) u v') v) u := by
  obtain ⟨t, a, b, c, d, aA, aB, cA, cB, fn, cn, fx, fy, hA, hB, nu, pr, sX, sY, tX, tY, ⟨ht, ha, hb, hc, hd⟩, hM, hT, ⟨h1, h2, h3, h4⟩, rfl, rfl⟩ := I
  refine xw_size ?_
  exact yw_size ht ha hb h1 h2 (fun fx' fy' nu' pr' sX' sY' tX' tY' => ⟨(zw_size ht ha hb hT).symm, zw_R ht ha hb hc hd hM hT h1 h2 h3 h4⟩)
theorem i_vc_most {k : Nat} {u : SX} {v : SY} (I : i_Rel k u v) (hk : k + 3 ≤ 1537) : wpX_most (fun r => wpY_most (fun r' v' => r' = r ∧ i_Rel (k + 3) u v') v) u := by
  obtain ⟨t, a, b, c, d, aA, aB, cA, cB, fn, cn, fx, fy, hA, hB, nu, pr, sX, sY, tX, tY, ⟨ht, ha, hb, hc, hd⟩, hM, hT, ⟨h1, h2, h3, h4⟩, rfl, rfl⟩ := I
  refine xw_most ?_
  exact yw_most ht ha hb h1 h2 (fun fx' fy' nu' pr' sX' sY' tX' tY' => ⟨(zw_most ht ha hb hT).symm, zw_R ht ha hb hc hd hM hT h1 h2 h3 h4⟩)
theorem i_vc_orbit {k : Nat} {u : SX} {v : SY} (I : i_Rel k u v) (hk : k + 3 ≤ 1537) (v1 : Int32) (v2 : Int32) : wpX_orbit (fun r => wpY_orbit (fun r' v' => r' = r ∧ i_Rel (k + 3) u v') v v1 v2) u v1 v2 := by
  obtain ⟨t, a, b, c, d, aA, aB, cA, cB, fn, cn, fx, fy, hA, hB, nu, pr, sX, sY, tX, tY, ⟨ht, ha, hb, hc, hd⟩, hM, hT, ⟨h1, h2, h3, h4⟩, rfl, rfl⟩ := I
  unfold wpX_orbit
  dsimp only
  by_cases g : xw_rc v1 v2
  · obtain ⟨C, D, hC, hD, e1, e2⟩ := zw_rc g
    obtain ⟨o1, o2⟩ := mz_orb ht hC hD
    rw [← e1, ← e2] at o1 o2
    refine xw_re g (br_f (by decide) (xw_orbit ht hM o2 ?_))
    exact yw_orbit ht g (fun fx' fy' => ⟨o1.symm, zw_R ht ha hb hc hd hM hT h1 h2 h3 h4⟩)
  · unfold wpY_orbit
    dsimp only
    exact xw_nre g (br_t rfl (yw_far g (br_f (by decide) ⟨rfl, zw_R ht ha hb hc hd hM hT h1 h2 h3 h4⟩)))
theorem i_vc_high {k : Nat} {u : SX} {v : SY} (I : i_Rel k u v) (hk : k + 3 ≤ 1537) (v1 : Int32) (v2 : Int32) : wpX_high (fun r => wpY_high (fun r' v' => r' = r ∧ i_Rel (k + 3) u v') v v1 v2) u v1 v2 := by
  obtain ⟨t, a, b, c, d, aA, aB, cA, cB, fn, cn, fx, fy, hA, hB, nu, pr, sX, sY, tX, tY, ⟨ht, ha, hb, hc, hd⟩, hM, hT, ⟨h1, h2, h3, h4⟩, rfl, rfl⟩ := I
  unfold wpX_high
  dsimp only
  by_cases g : xw_rc v1 v2
  · obtain ⟨C, D, hC, hD, e1, e2⟩ := zw_rc g
    have o1 := mz_high ht hC hD
    rw [← e1, ← e2] at o1
    refine xw_re g (br_f (by decide) (xw_high ht hM ?_))
    exact yw_high ht g (fun fx' fy' => ⟨o1.symm, zw_R ht ha hb hc hd hM hT h1 h2 h3 h4⟩)
  · unfold wpY_high
    dsimp only
    exact xw_nre g (br_t rfl (yw_far g (br_f (by decide) ⟨rfl, zw_R ht ha hb hc hd hM hT h1 h2 h3 h4⟩)))
theorem i_vc_product {k : Nat} {u : SX} {v : SY} (I : i_Rel k u v) (hk : k + 3 ≤ 1537) (v1 : Int32) (v2 : Int32) : wpX_product (fun r => wpY_product (fun r' v' => r' = r ∧ i_Rel (k + 3) u v') v v1 v2) u v1 v2 := by
  obtain ⟨t, a, b, c, d, aA, aB, cA, cB, fn, cn, fx, fy, hA, hB, nu, pr, sX, sY, tX, tY, ⟨ht, ha, hb, hc, hd⟩, hM, hT, ⟨h1, h2, h3, h4⟩, rfl, rfl⟩ := I
  unfold wpX_product
  dsimp only
  by_cases g : xw_rc v1 v2
  · refine xw_re g (br_f (by decide) ?_)
    by_cases q : ¬ v1 < 0 ∧ ¬ v2 < 0
    · refine xw_hi q (br_f (by decide) (xw_tp ht hM hT ?_))
      exact yw_product ht ha hb hc hd h1 h2 h3 h4 g (fun fx' fy' nu' pr' sX' sY' tX' tY' => ⟨if_pos q, zw_R ht ha hb hc hd hM hT h1 h2 h3 h4⟩)
    · refine xw_nhi q (br_t rfl ?_)
      exact yw_product ht ha hb hc hd h1 h2 h3 h4 g (fun fx' fy' nu' pr' sX' sY' tX' tY' => ⟨if_neg q, zw_R ht ha hb hc hd hM hT h1 h2 h3 h4⟩)
  · unfold wpY_product
    dsimp only
    exact xw_nre g (br_t rfl (yw_far g (br_f (by decide) ⟨rfl, zw_R ht ha hb hc hd hM hT h1 h2 h3 h4⟩)))
theorem i_vc_kinds {k : Nat} {u : SX} {v : SY} (I : i_Rel k u v) (hk : k + 3 ≤ 1537) : wpX_kinds (fun r => wpY_kinds (fun r' v' => r' = r ∧ i_Rel (k + 3) u v') v) u := by
  obtain ⟨t, a, b, c, d, aA, aB, cA, cB, fn, cn, fx, fy, hA, hB, nu, pr, sX, sY, tX, tY, ⟨ht, ha, hb, hc, hd⟩, hM, hT, ⟨h1, h2, h3, h4⟩, rfl, rfl⟩ := I
  refine xw_kinds ht hM hT ?_
  exact yw_kinds ht ha hb hc hd h1 h2 h3 h4 (fun fx' fy' nu' pr' sX' sY' tX' tY' => ⟨(zw_kinds ht ha hb hc hd).symm, zw_R ht ha hb hc hd hM hT h1 h2 h3 h4⟩)
theorem i_vc_total {k : Nat} {u : SX} {v : SY} (I : i_Rel k u v) (hk : k + 3 ≤ 1537) : wpX_total (fun r => wpY_total (fun r' v' => r' = r ∧ i_Rel (k + 3) u v') v) u := by
  obtain ⟨t, a, b, c, d, aA, aB, cA, cB, fn, cn, fx, fy, hA, hB, nu, pr, sX, sY, tX, tY, ⟨ht, ha, hb, hc, hd⟩, hM, hT, ⟨h1, h2, h3, h4⟩, rfl, rfl⟩ := I
  refine xw_total ht hM hT ?_
  exact yw_total ht ha hb hc hd h1 h2 h3 h4 (fun fx' fy' nu' pr' sX' sY' tX' tY' => ⟨(zw_total ht ha hb hc hd).symm, zw_R ht ha hb hc hd hM hT h1 h2 h3 h4⟩)
theorem i_vc_even {k : Nat} {u : SX} {v : SY} (I : i_Rel k u v) (hk : k + 3 ≤ 1537) (v1 : Int32) (v2 : Int32) : wpX_even (fun r => wpY_even (fun r' v' => r' = r ∧ i_Rel (k + 3) u v') v v1 v2) u v1 v2 := by
  obtain ⟨t, a, b, c, d, aA, aB, cA, cB, fn, cn, fx, fy, hA, hB, nu, pr, sX, sY, tX, tY, ⟨ht, ha, hb, hc, hd⟩, hM, hT, ⟨h1, h2, h3, h4⟩, rfl, rfl⟩ := I
  unfold wpX_even
  dsimp only
  by_cases g : xw_rc v1 v2
  · refine xw_re g (br_f (by decide) ?_)
    by_cases q : ¬ v1 < 0 ∧ ¬ v2 < 0
    · refine xw_hi q (br_f (by decide) (xw_tp ht hM hT (xw_td ht hM hT ⟨by decide, ?_⟩)))
      unfold wpY_even
      dsimp only
      refine yw_near g (br_t rfl ?_)
      exact yw_half' ht ha hb h1 h2 (fun fx' fy' nu' pr' sX' sY' tX' tY' => ⟨(if_pos q).trans (if_neg (by decide)), zw_R ht ha hb hc hd hM hT h1 h2 h3 h4⟩)
    · refine xw_nhi q (br_t rfl ?_)
      unfold wpY_even
      dsimp only
      refine yw_near g (br_t rfl ?_)
      exact yw_half' ht ha hb h1 h2 (fun fx' fy' nu' pr' sX' sY' tX' tY' => ⟨if_neg q, zw_R ht ha hb hc hd hM hT h1 h2 h3 h4⟩)
  · unfold wpY_even
    dsimp only
    exact xw_nre g (br_t rfl (yw_far g (br_f (by decide) ⟨rfl, zw_R ht ha hb hc hd hM hT h1 h2 h3 h4⟩)))
theorem i_vc_odd {k : Nat} {u : SX} {v : SY} (I : i_Rel k u v) (hk : k + 3 ≤ 1537) (v1 : Int32) (v2 : Int32) : wpX_odd (fun r => wpY_odd (fun r' v' => r' = r ∧ i_Rel (k + 3) u v') v v1 v2) u v1 v2 := by
  obtain ⟨t, a, b, c, d, aA, aB, cA, cB, fn, cn, fx, fy, hA, hB, nu, pr, sX, sY, tX, tY, ⟨ht, ha, hb, hc, hd⟩, hM, hT, ⟨h1, h2, h3, h4⟩, rfl, rfl⟩ := I
  unfold wpX_odd
  dsimp only
  by_cases g : xw_rc v1 v2
  · refine xw_re g (br_f (by decide) ?_)
    by_cases q : ¬ v1 < 0 ∧ ¬ v2 < 0
    · refine xw_hi q (br_f (by decide) (xw_tp ht hM hT (xw_td ht hM hT ⟨by decide, ?_⟩)))
      unfold wpY_odd
      dsimp only
      refine yw_near g (br_t rfl ?_)
      exact yw_half' ht ha hb h1 h2 (fun fx' fy' nu' pr' sX' sY' tX' tY' => ⟨(if_pos q).trans (if_pos rfl), zw_R ht ha hb hc hd hM hT h1 h2 h3 h4⟩)
    · refine xw_nhi q (br_t rfl ?_)
      unfold wpY_odd
      dsimp only
      refine yw_near g (br_t rfl ?_)
      exact yw_half' ht ha hb h1 h2 (fun fx' fy' nu' pr' sX' sY' tX' tY' => ⟨if_neg q, zw_R ht ha hb hc hd hM hT h1 h2 h3 h4⟩)
  · unfold wpY_odd
    dsimp only
    exact xw_nre g (br_t rfl (yw_far g (br_f (by decide) ⟨rfl, zw_R ht ha hb hc hd hM hT h1 h2 h3 h4⟩)))
theorem zw_1 : (1 : Int32).toInt = 1 := by decide
theorem zw_along {k t a b c d : Nat} {aA aB cA cB fn cn : Nat → Int32} {fx fy : Int32} {hA hB nu pr sX sY tX tY : Nat → Int32} (ht : t < 4) (ha : a < 4) (hb : b < 4) (hc : c < 4) (hd : d < 4) (hM : xw_M t aA aB cA cB)
    (hT : ∀ x y, xw_ga fn x y = mz_T (mz_ix t a b) x y) (h1 : hA 0 = nI a) (h2 : hB 0 = nI b) (h3 : hA 1 = nI c) (h4 : hB 1 = nI d) {v1 v2 : Int32} (q1 : ¬ v1 < 0) (q2 : v1 ≤ 1) :
    wX_along_11 (fun r => wpY_along (fun r' v' => r' = r ∧ i_Rel (k + 3) (nI t, mz_p t, mz_q t, nI (2 * mz_h t), nI a, nI b, nI c, nI d, aA, aB, cA, cB, fn, cn) v') (nI t, mz_p t, mz_q t, nI (2 * mz_h t), fx, fy, hA, hB, nu, pr, sX, sY, tX, tY) v1 v2) v1 v2 (nI t) (mz_p t) (mz_q t) (nI (2 * mz_h t)) (nI a) (nI b) (nI c) (nI d) aA aB cA cB fn cn := by
  unfold wX_along_11
  refine br_c (fun n1 => ?_) (fun n1 => br_c (fun n2 => ?_) (fun n2 => ?_))
  · unfold wpY_along
    dsimp only
    exact br_f q1 (br_t q2 (br_t n1 ⟨rfl, zw_R ht ha hb hc hd hM hT h1 h2 h3 h4⟩))
  · refine xw_line hT (xw_line hT ?_)
    unfold wpY_along
    dsimp only
    refine br_f q1 (br_t q2 (br_f n1 (br_t n2 ?_)))
    exact yw_along ht ha hb h1 h2 (fun fx' fy' nu' pr' sX' sY' tX' tY' => ⟨yw_along_eq ht ha hb v1 v2, zw_R ht ha hb hc hd hM hT h1 h2 h3 h4⟩)
  · unfold wpY_along
    dsimp only
    exact br_f q1 (br_t q2 (br_f n1 (br_f n2 ⟨rfl, zw_R ht ha hb hc hd hM hT h1 h2 h3 h4⟩)))
theorem i_vc_along {k : Nat} {u : SX} {v : SY} (I : i_Rel k u v) (hk : k + 3 ≤ 1537) (v1 : Int32) (v2 : Int32) : wpX_along (fun r => wpY_along (fun r' v' => r' = r ∧ i_Rel (k + 3) u v') v v1 v2) u v1 v2 := by
  obtain ⟨t, a, b, c, d, aA, aB, cA, cB, fn, cn, fx, fy, hA, hB, nu, pr, sX, sY, tX, tY, ⟨ht, ha, hb, hc, hd⟩, hM, hT, ⟨h1, h2, h3, h4⟩, rfl, rfl⟩ := I
  have e0 := xw_03.1
  have e1 := zw_1
  unfold wpX_along
  dsimp only
  refine br_c (fun c0 => ?_) (fun c0 => br_c (fun c1 => ?_) (fun c1 => ?_))
  · exact zw_along ht ha hb hc hd hM hT h1 h2 h3 h4 (by rw [c0]; decide) (by rw [c0]; decide)
  · exact zw_along ht ha hb hc hd hM hT h1 h2 h3 h4 (by rw [c1]; decide) (by rw [c1]; decide)
  · unfold wpY_along
    dsimp only
    have d0 : ¬ v1.toInt = 0 := fun z => c0 (mz_eq (z.trans e0.symm))
    have d1 : ¬ v1.toInt = 1 := fun z => c1 (mz_eq (z.trans e1.symm))
    by_cases q1 : v1 < 0
    · exact br_t q1 ⟨rfl, zw_R ht ha hb hc hd hM hT h1 h2 h3 h4⟩
    · have q2 : ¬ v1 ≤ 1 := by
        rw [mz_lt, e0] at q1
        rw [mz_le, e1]
        omega
      exact br_f q1 (br_f q2 ⟨rfl, zw_R ht ha hb hc hd hM hT h1 h2 h3 h4⟩)
