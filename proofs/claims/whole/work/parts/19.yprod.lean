/-! the reference: products -/
theorem yw_pk {t c d : Nat} (ht : t < 4) (hc : c < 4) (hd : d < 4) {e X Y : Nat} (he : e < 1089) (hX : X < 65) (hY : Y < 65) (nv : Int32) :
    mz_s (fun f => if e / 33 + f / 33 = X ∧ e % 33 + f % 33 = Y then nv * mz_T (mz_ix t c d) (mz_ex f) (mz_ey f) else 0) 1089 = nv * mz_T (mz_ix t c d) (nI X - nI 32 - mz_ex e) (nI Y - nI 32 - mz_ey e) := by
  rw [← mz_pick ht hc hd, ← mz_s_mul]
  refine mz_s_c (fun f hf => ?_)
  have i1 : mz_ex e = nI X - nI 32 - mz_ex f ↔ e / 33 + f / 33 = X := by
    rw [← nI_eq (a := e / 33 + f / 33) (b := X) (by omega) (by omega), ← nI_add]
    unfold mz_ex
    rw [show nI 32 = nI 16 + nI 16 by decide]
    constructor <;> intro h <;> grind
  have i2 : mz_ey e = nI Y - nI 32 - mz_ey f ↔ e % 33 + f % 33 = Y := by
    rw [← nI_eq (a := e % 33 + f % 33) (b := Y) (by omega) (by omega), ← nI_add]
    unfold mz_ey
    rw [show nI 32 = nI 16 + nI 16 by decide]
    constructor <;> intro h <;> grind
  by_cases q : e / 33 + f / 33 = X ∧ e % 33 + f % 33 = Y
  · rw [if_pos q, if_pos ⟨i1.mpr q.1, i2.mpr q.2⟩]; grind
  · rw [if_neg q, if_neg (fun z => q ⟨i1.mp z.1, i2.mp z.2⟩)]; grind
def yw_PR (i j : Nat) (pr : Nat → Int32) : Prop := ∀ X Y, X < 65 → Y < 65 → pr (65 * X + Y) = mz_PR i j (nI X - nI 32) (nI Y - nI 32)
theorem yw_place {e c : Nat} (hc : c < 1089) : (((65 * ((mz_ex e + (nI c / 33)) + 16)) + mz_ey e) + (nI c - nI c / 33 * 33)) + 16 = nI (65 * (e / 33 + c / 33) + (e % 33 + c % 33)) := by
  rw [show nI c / 33 = nI (c / 33) from pk_div (d := 33) (by omega) (by omega) (by omega), show nI c - nI (c / 33) * 33 = nI (c % 33) from by
    rw [show nI (c / 33) = nI c / 33 from (pk_div (d := 33) (by omega) (by omega) (by omega)).symm]; exact pk_rem (d := 33) (by omega) (by omega) (by omega)]
  unfold mz_ex mz_ey
  rw [← nI_add (65 * (e / 33 + c / 33)), ← pk_mul, ← nI_add, ← nI_add, show nI 65 = 65 from rfl, show nI 16 = 16 from rfl]
  grind
theorem yw_PR_out {t a b c d : Nat} (ht : t < 4) (hc : c < 4) (hd : d < 4) {x y : Int32} (g : ¬ (-32 ≤ x.toInt ∧ x.toInt ≤ 32 ∧ -32 ≤ y.toInt ∧ y.toInt ≤ 32)) : mz_PR (mz_ix t a b) (mz_ix t c d) x y = 0 := by
  refine mz_s_0 (fun e he => ?_)
  by_cases z : mz_T (mz_ix t c d) (x - mz_ex e) (y - mz_ey e) = 0
  · rw [z, Int32.mul_zero]
  · exfalso
    obtain ⟨⟨g1, g2⟩, g3, g4⟩ := mz_Tx ht hc hd z
    have e1 : (mz_ex e).toInt = (e / 33 : Nat) - 16 := mz_sub_to (by omega) (by omega)
    have e2 : (mz_ey e).toInt = (e % 33 : Nat) - 16 := mz_sub_to (by omega) (by omega)
    have s1 : x = mz_i ((x - mz_ex e).toInt + (mz_ex e).toInt) := by rw [← mz_add, ← mz_of, ← mz_of]; grind
    have s2 : y = mz_i ((y - mz_ey e).toInt + (mz_ey e).toInt) := by rw [← mz_add, ← mz_of, ← mz_of]; grind
    have r1 := congrArg Int32.toInt s1
    have r2 := congrArg Int32.toInt s2
    rw [mz_to (by omega) (by omega)] at r1 r2
    omega
section
variable {t : Nat} {gt fx fy : Int32} {hA hB nu pr sX sY tX tY : Nat → Int32}

variable {a b c d : Nat}
theorem yw_add {post : SY → Prop} {e s0 : Nat} (ht : t < 4) (hc : c < 4) (hd : d < 4) (hs : s0 < 2) (he : e < 1089) {j : Nat} (hT1 : ∀ x y, yw_ga nu 0 x y = mz_T j x y) (hT2 : ∀ x y, yw_ga nu s0 x y = mz_T (mz_ix t c d) x y)
    (h : ∀ pr', (∀ X Y, X < 65 → Y < 65 → pr' (65 * X + Y) = pr (65 * X + Y) + mz_T j (mz_ex e) (mz_ey e) * mz_T (mz_ix t c d) (nI X - nI 32 - mz_ex e) (nI Y - nI 32 - mz_ey e)) → post (gt, (mz_p t), (mz_q t), (nI (2 * mz_h t)), fx, fy, hA, hB, nu, pr', sX, sY, tX, tY)) :
    wpY_addProducts post (gt, (mz_p t), (mz_q t), (nI (2 * mz_h t)), fx, fy, hA, hB, nu, pr, sX, sY, tX, tY) (nI s0) (mz_ex e) (mz_ey e) := by
  unfold wpY_addProducts
  dsimp only
  refine yw_at (s := 0) (by decide) ?_
  rw [hT1]
  generalize mz_T j (mz_ex e) (mz_ey e) = nv at h
  refine pk_loop (fun n f s => wY_addProducts_12 post (nI s0) (mz_ex e) (mz_ey e) nv gt (mz_p t) (mz_q t) (nI (2 * mz_h t)) fx fy n (nI f) hA hB nu s sX sY tX tY) (fun f s => ∀ X Y, X < 65 → Y < 65 → s (65 * X + Y) = pr (65 * X + Y) + mz_s (fun f => if e / 33 + f / 33 = X ∧ e % 33 + f % 33 = Y then nv * mz_T (mz_ix t c d) (mz_ex f) (mz_ey f) else 0) f) 1089 0 pr (by omega) (fun X Y _ _ => by rw [mz_s]; grind) ?_ ?_
  · intro n s hs'
    refine br_t (nI_le (a := 1089) (b := 1089) (by decide) (by decide)) (h s (fun X Y hX hY => ?_))
    rw [hs' X Y hX hY, yw_pk ht hc hd he hX hY]
  · intro n f s hf hs' ih
    have ei : 1089 * nI s0 + nI f = nI (1089 * s0 + f) := by rw [← nI_add, ← pk_mul]; rfl
    refine br_f (nI_ge (b := 1089) hf (by decide)) (br_c (fun z => h s (fun X Y hX hY => ?_)) (fun z => ⟨by decide, by decide, fun x6 e6 => ?_⟩))
    · rw [hs' X Y hX hY, z, mz_s_0 (fun f' _ => ?_)]
      · grind
      · split <;> grind
    · rw [yw_place hf] at e6
      subst e6
      rw [ei, nI_clamp (by omega), nI_clamp (by omega), yw_nu hT2 hf]
      refine ⟨vp_in_nI (by omega) (by decide), vp_in_nI (by omega) (by decide), vp_in_nI (by omega) (by decide), fun ar ear x5 e5 => ?_⟩
      rw [e5, nI_1]
      refine ih ar (fun X Y hX hY => ?_)
      rw [ear, mz_s]
      by_cases q : e / 33 + f / 33 = X ∧ e % 33 + f % 33 = Y
      · rw [if_pos q, q.1, q.2, pk_us, hs' X Y hX hY]; grind
      · rw [if_neg q, pk_un (by omega), hs' X Y hX hY]; grind
theorem yw_mul34 {post : SY → Prop} {s0 : Nat} (ht : t < 4) (hc : c < 4) (hd : d < 4) (hs : s0 < 2) (hT1 : ∀ x y, yw_ga nu 0 x y = mz_T (mz_ix t a b) x y) (hT2 : ∀ x y, yw_ga nu s0 x y = mz_T (mz_ix t c d) x y)
    (h0 : ∀ X Y, X < 65 → Y < 65 → pr (65 * X + Y) = 0) (h : ∀ pr', yw_PR (mz_ix t a b) (mz_ix t c d) pr' → post (gt, (mz_p t), (mz_q t), (nI (2 * mz_h t)), fx, fy, hA, hB, nu, pr', sX, sY, tX, tY)) : ∃ n, wY_multiply_34 post (nI s0) n 0 gt (mz_p t) (mz_q t) (nI (2 * mz_h t)) fx fy hA hB nu pr sX sY tX tY := by
  refine pk_loop (fun n e s => wY_multiply_34 post (nI s0) n (nI e) gt (mz_p t) (mz_q t) (nI (2 * mz_h t)) fx fy hA hB nu s sX sY tX tY) (fun e s => ∀ X Y, X < 65 → Y < 65 → s (65 * X + Y) = mz_s (fun e => mz_T (mz_ix t a b) (mz_ex e) (mz_ey e) * mz_T (mz_ix t c d) (nI X - nI 32 - mz_ex e) (nI Y - nI 32 - mz_ey e)) e) 1089 0 pr (by omega) (fun X Y hX hY => by rw [h0 X Y hX hY, mz_s]) ?_ ?_
  · intro n s hs'
    exact br_t (nI_le (a := 1089) (b := 1089) (by decide) (by decide)) (h s hs')
  · intro n e s he hs' ih
    refine br_f (nI_ge (b := 1089) he (by decide)) ⟨by decide, by decide, ?_⟩
    rw [show nI e / 33 - 16 = mz_ex e by rw [show nI e / 33 = nI (e / 33) from pk_div (d := 33) (by omega) (by omega) (by omega)]; rfl,
      show nI e - nI e / 33 * 33 - 16 = mz_ey e by rw [show nI e - nI e / 33 * 33 = nI (e % 33) from pk_rem (d := 33) (by omega) (by omega) (by omega)]; rfl]
    refine yw_add ht hc hd hs he hT1 hT2 (fun pr' hp x2 e2 => ?_)
    rw [e2, nI_1]
    refine ih pr' (fun X Y hX hY => ?_)
    rw [hp X Y hX hY, hs' X Y hX hY, mz_s]
theorem yw_mul12 {post : SY → Prop} {s0 : Nat} (ht : t < 4) (hc : c < 4) (hd : d < 4) (hs : s0 < 2) (hT1 : ∀ x y, yw_ga nu 0 x y = mz_T (mz_ix t a b) x y) (hT2 : ∀ x y, yw_ga nu s0 x y = mz_T (mz_ix t c d) x y)
    (h : ∀ pr', yw_PR (mz_ix t a b) (mz_ix t c d) pr' → post (gt, (mz_p t), (mz_q t), (nI (2 * mz_h t)), fx, fy, hA, hB, nu, pr', sX, sY, tX, tY)) : ∃ n, wY_multiply_12 post (nI s0) gt (mz_p t) (mz_q t) (nI (2 * mz_h t)) fx fy n 0 hA hB nu pr sX sY tX tY := by
  refine pk_loop (fun n i s => wY_multiply_12 post (nI s0) gt (mz_p t) (mz_q t) (nI (2 * mz_h t)) fx fy n (nI i) hA hB nu s sX sY tX tY) (fun i s => ∀ l, l < i → s l = 0) 4225 0 pr (by omega) (fun l hl => by omega) ?_ ?_
  · intro n s hs'
    exact br_t (nI_le (a := 4225) (b := 4225) (by decide) (by decide)) (yw_mul34 ht hc hd hs hT1 hT2 (fun X Y hX hY => hs' _ (by omega)) h)
  · intro n i s hi hs' ih
    refine br_f (nI_ge (b := 4225) hi (by decide)) ⟨vp_in_nI hi (by decide), fun ar ear x2 e2 => ?_⟩
    rw [e2, nI_1]
    refine ih ar (fun l hl => ?_)
    rw [ear, nI_clamp (by omega)]
    by_cases q : l = i
    · rw [q, pk_us]
    · rw [pk_un q]; exact hs' l (by omega)
theorem yw_mul {post : SY → Prop} {s0 : Nat} (ht : t < 4) (ha : a < 4) (hb : b < 4) (hc : c < 4) (hd : d < 4) (hs : s0 < 2) (hhA : hA 0 = nI a) (hhB : hB 0 = nI b) (hhC : hA s0 = nI c) (hhD : hB s0 = nI d)
    (h : ∀ fx' fy' nu' pr' sX' sY' tX' tY', yw_Sh t sX' sY' → (∀ x y, yw_ga nu' 0 x y = mz_T (mz_ix t a b) x y) → yw_PR (mz_ix t a b) (mz_ix t c d) pr' → post (gt, (mz_p t), (mz_q t), (nI (2 * mz_h t)), fx', fy', hA, hB, nu', pr', sX', sY', tX', tY')) : wpY_multiply post (gt, (mz_p t), (mz_q t), (nI (2 * mz_h t)), fx, fy, hA, hB, nu, pr, sX, sY, tX, tY) (nI s0) := by
  unfold wpY_multiply
  dsimp only
  refine yw_make (s0 := 0) ht ha hb (by decide) hhA hhB (fun fx' fy' nu' sX' sY' tX' tY' hS hT hO => ?_)
  refine yw_make ht hc hd hs hhC hhD (fun fx2 fy2 nu2 sX2 sY2 tX2 tY2 hS2 hT2 hO2 => ?_)
  have hT1 : ∀ x y, yw_ga nu2 0 x y = mz_T (mz_ix t a b) x y := by
    intro x y
    by_cases q : s0 = 0
    · subst q
      have e1 : a = c := by
        have := hhA.symm.trans hhC
        rw [nI_eq (by omega) (by omega)] at this; exact this
      have e2 : b = d := by
        have := hhB.symm.trans hhD
        rw [nI_eq (by omega) (by omega)] at this; exact this
      rw [e1, e2]; exact hT2 x y
    · rw [← hT]
      by_cases g : yw_in x y
      · have l := yw_cl_lt g
        rw [yw_ga_in g, yw_ga_in g]; exact hO2 _ (by omega)
      · rw [yw_ga_out g, yw_ga_out g]
  exact yw_mul12 ht hc hd hs hT1 hT2 (fun pr' hP => h fx2 fy2 nu2 pr' sX2 sY2 tX2 tY2 hS2 hT1 hP)
theorem yw_32 : (-32 : Int32).toInt = -32 ∧ (32 : Int32).toInt = 32 := by decide
theorem yw_pAt {post : Int32 → Prop} {x y : Int32} (ht : t < 4) (hc : c < 4) (hd : d < 4) (hP : yw_PR (mz_ix t a b) (mz_ix t c d) pr) (h : post (mz_PR (mz_ix t a b) (mz_ix t c d) x y)) : wpY_productAt post (gt, (mz_p t), (mz_q t), (nI (2 * mz_h t)), fx, fy, hA, hB, nu, pr, sX, sY, tX, tY) x y := by
  have e1 := yw_32.1
  have e2 := yw_32.2
  unfold wpY_productAt
  dsimp only
  by_cases g : -32 ≤ x.toInt ∧ x.toInt ≤ 32 ∧ -32 ≤ y.toInt ∧ y.toInt ≤ 32
  · have ex : x = nI (x.toInt + 32).toNat - nI 32 := mz_eq (by rw [mz_sub_to (by omega) (by omega)]; omega)
    have ey : y = nI (y.toInt + 32).toNat - nI 32 := mz_eq (by rw [mz_sub_to (by omega) (by omega)]; omega)
    have ei : ((65 * (x + 32)) + y) + 32 = nI (65 * (x.toInt + 32).toNat + (y.toInt + 32).toNat) := by
      rw [← nI_add, ← pk_mul, show nI 65 = 65 from rfl]
      generalize (x.toInt + 32).toNat = X at ex ⊢
      generalize (y.toInt + 32).toNat = Y at ey ⊢
      rw [ex, ey, show nI 32 = 32 from rfl]; grind
    rw [ei, nI_clamp (by omega), hP _ _ (by omega) (by omega), ← ex, ← ey]
    exact br_f (by rw [mz_lt]; omega) (br_f (by rw [mz_lt]; omega) (br_f (by rw [mz_lt]; omega) (br_f (by rw [mz_lt]; omega) ⟨vp_in_nI (by omega) (by omega), h⟩)))
  · rw [yw_PR_out ht hc hd g] at h
    refine br_c (fun _ => h) (fun n1 => br_c (fun _ => h) (fun n2 => br_c (fun _ => h) (fun n3 => br_c (fun _ => h) (fun n4 => absurd ?_ g))))
    rw [mz_lt] at n1 n2 n3 n4
    exact ⟨by omega, by omega, by omega, by omega⟩
theorem yw_dbl {post : Int32 → Prop} {x y : Int32} {j : Nat} (hT1 : ∀ x y, yw_ga nu 0 x y = mz_T j x y) (h : post (mz_db j x y)) : wpY_doubled post (gt, (mz_p t), (mz_q t), (nI (2 * mz_h t)), fx, fy, hA, hB, nu, pr, sX, sY, tX, tY) x y := by
  unfold wpY_doubled
  dsimp only
  unfold mz_db at h
  refine ⟨by decide, br_c (fun c1 => ⟨by decide, br_c (fun c2 => ⟨by decide, by decide, yw_at (s := 0) (by decide) ?_⟩) (fun c2 => ?_)⟩) (fun c1 => ?_)⟩
  · rw [hT1]
    rw [if_pos ⟨c1, c2⟩] at h; exact h
  · rw [if_neg (fun z => c2 z.2)] at h; exact h
  · rw [if_neg (fun z => c1 z.1)] at h; exact h
theorem yw_tp {post : Int32 → Prop} {u v : Int32} (ht : t < 4) (ha : a < 4) (hb : b < 4) (hc : c < 4) (hd : d < 4) (hS : yw_Sh t sX sY) (hT1 : ∀ x y, yw_ga nu 0 x y = mz_T (mz_ix t a b) x y) (hP : yw_PR (mz_ix t a b) (mz_ix t c d) pr) (h : post (mz_tp (mz_ix t a b) t (nI c) (nI d) (u + 1) (v + 1))) : wpY_times post (gt, (mz_p t), (mz_q t), (nI (2 * mz_h t)), fx, fy, hA, hB, nu, pr, sX, sY, tX, tY) u v 1 := by
  have h12 := xw_h12 ht
  unfold wpY_times
  dsimp only
  have key := (mz_perm ht (fun k => mz_sg k * mz_PR (mz_ix t a b) (mz_ix t c d) (u + 1 - mz_X t k 1 1) (v + 1 - mz_Y t k 1 1))).trans (mz_prod ht ha hb hc hd (u + 1) (v + 1))
  refine pk_loop (fun n i s => wY_times_6 post u v 1 gt (mz_p t) (mz_q t) (nI (2 * mz_h t)) fx fy hA hB nu pr sX sY tX tY n s (nI i)) (fun i s => s = mz_s (fun k => mz_sg (mz_sw t k) * mz_PR (mz_ix t a b) (mz_ix t c d) (u + 1 - mz_X t (mz_sw t k) 1 1) (v + 1 - mz_Y t (mz_sw t k) 1 1)) i) (2 * mz_h t) 0 0 (by omega) rfl ?_ ?_
  · intro n s hs
    refine br_t (nI_le (Nat.le_refl _) (by omega)) ?_
    rw [hs, key]; exact h
  · intro n i s hi hs ih
    have hv : vp_in (nI i) 12 := vp_in_nI (by omega) (by omega)
    obtain ⟨t1, t2⟩ := hS i hi
    refine br_f (nI_ge hi (by omega)) ⟨hv, fun x6 e6 => ⟨hv, fun x7 e7 => br_f (by decide) (yw_pAt ht hc hd hP ?_)⟩⟩
    rw [nI_clamp (by omega)] at e6 e7
    unfold wY_times_64
    refine yw_sg ht hi (fun x4 e4 x5 e5 => ?_)
    rw [e5, nI_1]
    refine ih _ ?_
    rw [e4, hs, mz_s, e6, e7, t1, t2]
theorem yw_td {post : Int32 → Prop} {u v : Int32} {j : Nat} (ht : t < 4) (hS : yw_Sh t sX sY) (hT1 : ∀ x y, yw_ga nu 0 x y = mz_T j x y) (h : post (mz_td j t (u + 1) (v + 1))) : wpY_times post (gt, (mz_p t), (mz_q t), (nI (2 * mz_h t)), fx, fy, hA, hB, nu, pr, sX, sY, tX, tY) u v 0 := by
  have h12 := xw_h12 ht
  unfold wpY_times
  dsimp only
  have key := mz_perm ht (fun k => mz_sg k * mz_db j (u + 1 - mz_X t k 1 1) (v + 1 - mz_Y t k 1 1))
  refine pk_loop (fun n i s => wY_times_6 post u v 0 gt (mz_p t) (mz_q t) (nI (2 * mz_h t)) fx fy hA hB nu pr sX sY tX tY n s (nI i)) (fun i s => s = mz_s (fun k => mz_sg (mz_sw t k) * mz_db j (u + 1 - mz_X t (mz_sw t k) 1 1) (v + 1 - mz_Y t (mz_sw t k) 1 1)) i) (2 * mz_h t) 0 0 (by omega) rfl ?_ ?_
  · intro n s hs
    refine br_t (nI_le (Nat.le_refl _) (by omega)) ?_
    rw [hs, key]; exact h
  · intro n i s hi hs ih
    have hv : vp_in (nI i) 12 := vp_in_nI (by omega) (by omega)
    obtain ⟨t1, t2⟩ := hS i hi
    refine br_f (nI_ge hi (by omega)) ⟨hv, fun x6 e6 => ⟨hv, fun x7 e7 => br_t rfl (yw_dbl hT1 ?_)⟩⟩
    rw [nI_clamp (by omega)] at e6 e7
    unfold wY_times_64
    refine yw_sg ht hi (fun x4 e4 x5 e5 => ?_)
    rw [e5, nI_1]
    refine ih _ ?_
    rw [e4, hs, mz_s, e6, e7, t1, t2]
theorem yw_product {post : Int32 → SY → Prop} {x y : Int32} (ht : t < 4) (ha : a < 4) (hb : b < 4) (hc : c < 4) (hd : d < 4) (hhA : hA 0 = nI a) (hhB : hB 0 = nI b) (hhC : hA 1 = nI c) (hhD : hB 1 = nI d) (gr : xw_rc x y)
    (h : ∀ fx' fy' nu' pr' sX' sY' tX' tY', post (if ¬ x < 0 ∧ ¬ y < 0 then mz_tp (mz_ix t a b) t (nI c) (nI d) (x + 1) (y + 1) else 0) (gt, (mz_p t), (mz_q t), (nI (2 * mz_h t)), fx', fy', hA, hB, nu', pr', sX', sY', tX', tY')) : wpY_product post (gt, (mz_p t), (mz_q t), (nI (2 * mz_h t)), fx, fy, hA, hB, nu, pr, sX, sY, tX, tY) x y := by
  unfold wpY_product
  dsimp only
  refine yw_near gr (br_t rfl ?_)
  refine yw_mul (s0 := 1) ht ha hb hc hd (by decide) hhA hhB hhC hhD (fun fx' fy' nu' pr' sX' sY' tX' tY' hS hT1 hP => ?_)
  refine br_c (fun c1 => ?_) (fun c1 => br_c (fun c2 => ?_) (fun c2 => ?_))
  · rw [if_neg (fun z => z.1 c1)] at h; exact h _ _ _ _ _ _ _ _
  · rw [if_pos ⟨c1, Int32.not_lt.mpr c2⟩] at h
    exact yw_tp ht ha hb hc hd hS hT1 hP (h _ _ _ _ _ _ _ _)
  · rw [if_neg (fun z => c2 (Int32.not_lt.mp z.2))] at h; exact h _ _ _ _ _ _ _ _
def yw_k1 (j t : Nat) (x y : Int32) (w : Nat) : Int32 := if mz_tp j t x y (nI (w / 33) + 1) (nI (w % 33) + 1) ≤ 0 then 0 else 1
theorem yw_w {w : Nat} (hw : w < 1089) : nI w / 33 = nI (w / 33) ∧ nI w - nI w / 33 * 33 = nI (w % 33) :=
  ⟨pk_div (d := 33) (by omega) (by omega) (by omega), pk_rem (d := 33) (by omega) (by omega) (by omega)⟩
theorem yw_kinds {post : Int32 → SY → Prop} (ht : t < 4) (ha : a < 4) (hb : b < 4) (hc : c < 4) (hd : d < 4) (hhA : hA 0 = nI a) (hhB : hB 0 = nI b) (hhC : hA 1 = nI c) (hhD : hB 1 = nI d)
    (h : ∀ fx' fy' nu' pr' sX' sY' tX' tY', post (mz_s (yw_k1 (mz_ix t a b) t (nI c) (nI d)) 1089) (gt, (mz_p t), (mz_q t), (nI (2 * mz_h t)), fx', fy', hA, hB, nu', pr', sX', sY', tX', tY')) : wpY_kinds post (gt, (mz_p t), (mz_q t), (nI (2 * mz_h t)), fx, fy, hA, hB, nu, pr, sX, sY, tX, tY) := by
  unfold wpY_kinds
  dsimp only
  refine yw_mul (s0 := 1) ht ha hb hc hd (by decide) hhA hhB hhC hhD (fun fx' fy' nu' pr' sX' sY' tX' tY' hS hT1 hP => ?_)
  refine pk_loop (fun n i s => wY_kinds_9 post gt (mz_p t) (mz_q t) (nI (2 * mz_h t)) fx' fy' hA hB nu' pr' sX' sY' tX' tY' n s (nI i)) (fun i s => s = mz_s (yw_k1 (mz_ix t a b) t (nI c) (nI d)) i) 1089 0 0 (by omega) rfl ?_ ?_
  · intro n s hs
    refine br_t (nI_le (a := 1089) (b := 1089) (by decide) (by decide)) ?_
    rw [hs]; exact h _ _ _ _ _ _ _ _
  · intro n i s hi hs ih
    refine br_f (nI_ge (b := 1089) hi (by decide)) ⟨by decide, by decide, ?_⟩
    rw [(yw_w hi).2, (yw_w hi).1]
    refine yw_tp ht ha hb hc hd hS hT1 hP (br_c (fun c1 x2 e2 => ?_) (fun c1 x1 e1 x2 e2 => ?_))
    · rw [e2, nI_1]
      refine ih _ ?_
      rw [hs, mz_s, yw_k1, if_pos c1]; grind
    · rw [e2, nI_1]
      refine ih _ ?_
      rw [e1, hs, mz_s, yw_k1, if_neg c1]
theorem yw_total {post : Int32 → SY → Prop} (ht : t < 4) (ha : a < 4) (hb : b < 4) (hc : c < 4) (hd : d < 4) (hhA : hA 0 = nI a) (hhB : hB 0 = nI b) (hhC : hA 1 = nI c) (hhD : hB 1 = nI d)
    (h : ∀ fx' fy' nu' pr' sX' sY' tX' tY', post (mz_s (fun w => mz_tp (mz_ix t a b) t (nI c) (nI d) (nI (w / 33) + 1) (nI (w % 33) + 1)) 1089) (gt, (mz_p t), (mz_q t), (nI (2 * mz_h t)), fx', fy', hA, hB, nu', pr', sX', sY', tX', tY')) : wpY_total post (gt, (mz_p t), (mz_q t), (nI (2 * mz_h t)), fx, fy, hA, hB, nu, pr, sX, sY, tX, tY) := by
  unfold wpY_total
  dsimp only
  refine yw_mul (s0 := 1) ht ha hb hc hd (by decide) hhA hhB hhC hhD (fun fx' fy' nu' pr' sX' sY' tX' tY' hS hT1 hP => ?_)
  refine pk_loop (fun n i s => wY_total_9 post gt (mz_p t) (mz_q t) (nI (2 * mz_h t)) fx' fy' hA hB nu' pr' sX' sY' tX' tY' n s (nI i)) (fun i s => s = mz_s (fun w => mz_tp (mz_ix t a b) t (nI c) (nI d) (nI (w / 33) + 1) (nI (w % 33) + 1)) i) 1089 0 0 (by omega) rfl ?_ ?_
  · intro n s hs
    refine br_t (nI_le (a := 1089) (b := 1089) (by decide) (by decide)) ?_
    rw [hs]; exact h _ _ _ _ _ _ _ _
  · intro n i s hi hs ih
    refine br_f (nI_ge (b := 1089) hi (by decide)) ⟨by decide, by decide, ?_⟩
    rw [(yw_w hi).2, (yw_w hi).1]
    refine yw_tp ht ha hb hc hd hS hT1 hP (fun x1 e1 x2 e2 => ?_)
    rw [e2, nI_1]
    refine ih _ ?_
    rw [e1, hs, mz_s]
theorem yw_half' {post : Int32 → SY → Prop} {x y e : Int32} (ht : t < 4) (ha : a < 4) (hb : b < 4) (hhA : hA 0 = nI a) (hhB : hB 0 = nI b)
    (h : ∀ fx' fy' nu' pr' sX' sY' tX' tY', post (if ¬ x < 0 ∧ ¬ y < 0 then (if e = 0 then (mz_tp (mz_ix t a b) t (nI a) (nI b) (x + 1) (y + 1) - mz_td (mz_ix t a b) t (x + 1) (y + 1)) / 2 else (mz_tp (mz_ix t a b) t (nI a) (nI b) (x + 1) (y + 1) + mz_td (mz_ix t a b) t (x + 1) (y + 1)) / 2) else 0) (gt, (mz_p t), (mz_q t), (nI (2 * mz_h t)), fx', fy', hA, hB, nu', pr', sX', sY', tX', tY')) : wpY_half post (gt, (mz_p t), (mz_q t), (nI (2 * mz_h t)), fx, fy, hA, hB, nu, pr, sX, sY, tX, tY) x y e := by
  unfold wpY_half
  dsimp only
  refine yw_mul (s0 := 0) ht ha hb ha hb (by decide) hhA hhB hhA hhB (fun fx' fy' nu' pr' sX' sY' tX' tY' hS hT1 hP => ?_)
  refine br_c (fun c1 => ?_) (fun c1 => br_c (fun c2 => ?_) (fun c2 => ?_))
  · rw [if_neg (fun z => z.1 c1)] at h; exact h _ _ _ _ _ _ _ _
  · rw [if_pos ⟨c1, Int32.not_lt.mpr c2⟩] at h
    refine yw_tp ht ha hb ha hb hS hT1 hP (yw_td ht hS hT1 (br_c (fun c3 => ⟨by decide, ?_⟩) (fun c3 => ⟨by decide, ?_⟩)))
    · rw [if_pos c3] at h; exact h _ _ _ _ _ _ _ _
    · rw [if_neg c3] at h; exact h _ _ _ _ _ _ _ _
  · rw [if_neg (fun z => c2 (Int32.not_lt.mp z.2))] at h; exact h _ _ _ _ _ _ _ _
end
