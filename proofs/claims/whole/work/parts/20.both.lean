/-! both sides' sums are the same -/
theorem mz_cut {f : Nat → Int32} (h : ∀ i, 33 ≤ i → i < 41 → f i = 0) : mz_s f 41 = mz_s f 33 := by
  rw [show 41 = 33 + 8 from rfl, mz_s_cat, mz_s_0 (f := fun i => f (33 + i)) (fun i hi => h _ (by omega) (by omega))]; grind
theorem zw_kinds {t a b c d : Nat} (ht : t < 4) (ha : a < 4) (hb : b < 4) (hc : c < 4) (hd : d < 4) :
    mz_s (fun x => mz_s (fun y => xw_k1 (mz_ix t a b) t (nI c) (nI d) x y) 41) 41 = mz_s (yw_k1 (mz_ix t a b) t (nI c) (nI d)) 1089 := by
  have z : ∀ x y, x ≤ 40 → y ≤ 40 → (9 < x ∨ 15 < y) → xw_k1 (mz_ix t a b) t (nI c) (nI d) x y = 0 := fun x y hx hy h => if_pos (mz_tp_0 ht ha hb hc hd hx hy h)
  rw [show mz_s (yw_k1 (mz_ix t a b) t (nI c) (nI d)) 1089 = _ from mz_s33 (fun r s => if mz_tp (mz_ix t a b) t (nI c) (nI d) (nI r + 1) (nI s + 1) ≤ 0 then (0 : Int32) else 1)]
  rw [mz_cut (fun x h1 h2 => mz_s_0 (fun y hy => z x y (by omega) (by omega) (by omega)))]
  refine mz_s_c (fun x hx => ?_)
  rw [mz_cut (fun y h1 h2 => z x y (by omega) (by omega) (by omega))]
  refine mz_s_c (fun y hy => ?_)
  obtain ⟨n, hn, e⟩ := mz_nn ht ha hb hc hd (c := x) (d := y) (by omega) (by omega)
  unfold xw_k1
  rw [e]
  by_cases q : n = 0
  · rw [q, if_pos nI_0, if_pos (by decide)]
  · rw [if_neg (nI_ne0 (by omega) (by omega)), if_neg (nI_nle (by omega) (by omega))]
theorem zw_total {t a b c d : Nat} (ht : t < 4) (ha : a < 4) (hb : b < 4) (hc : c < 4) (hd : d < 4) :
    mz_s (fun x => mz_s (fun y => mz_tp (mz_ix t a b) t (nI c) (nI d) (nI x + 1) (nI y + 1)) 41) 41 = mz_s (fun w => mz_tp (mz_ix t a b) t (nI c) (nI d) (nI (w / 33) + 1) (nI (w % 33) + 1)) 1089 := by
  have z : ∀ x y, x ≤ 40 → y ≤ 40 → (9 < x ∨ 15 < y) → mz_tp (mz_ix t a b) t (nI c) (nI d) (nI x + 1) (nI y + 1) = 0 := fun x y hx hy h => mz_tp_0 ht ha hb hc hd hx hy h
  rw [mz_s33 (fun r s => mz_tp (mz_ix t a b) t (nI c) (nI d) (nI r + 1) (nI s + 1))]
  rw [mz_cut (fun x h1 h2 => mz_s_0 (fun y hy => z x y (by omega) (by omega) (by omega)))]
  refine mz_s_c (fun x hx => ?_)
  exact mz_cut (fun y h1 h2 => z x y (by omega) (by omega) (by omega))
theorem zw_fn {fn : Nat → Int32} {j c : Nat} (hT : ∀ x y, xw_ga fn x y = mz_T j x y) (hc : c < 1681) : fn c = mz_T j (nI (c / 41) - nI 20) (nI (c % 41) - nI 20) := by
  have e1 : (nI (c / 41) - nI 20).toInt = (c / 41 : Nat) - 20 := mz_sub_to (by omega) (by omega)
  have e2 : (nI (c % 41) - nI 20).toInt = (c % 41 : Nat) - 20 := mz_sub_to (by omega) (by omega)
  have g : xw_in (nI (c / 41) - nI 20) (nI (c % 41) - nI 20) := ⟨by omega, by omega, by omega, by omega⟩
  rw [← hT, xw_ga_in g]
  refine congrArg fn ?_
  unfold xw_cl; omega
theorem zw_size {t a b : Nat} (ht : t < 4) (ha : a < 4) (hb : b < 4) {fn : Nat → Int32} (hT : ∀ x y, xw_ga fn x y = mz_T (mz_ix t a b) x y) : mz_s fn 1681 = mz_s (fun c => mz_T (mz_ix t a b) (mz_ex c) (mz_ey c)) 1089 := by
  rw [← mz_sumT ht ha hb]
  exact mz_s_c (fun c hc => zw_fn hT hc)
theorem mz_mx_0 (f : Nat → Int32) (n : Nat) : 0 ≤ mz_mx f n := by
  induction n with
  | zero => exact Int32.le_refl 0
  | succ n ih =>
    rw [mz_mx]
    by_cases c : f n ≤ mz_mx f n
    · rw [if_pos c]; exact ih
    · rw [if_neg c]
      rw [mz_le] at *
      omega
theorem mz_mx_ge (f : Nat → Int32) (n : Nat) : ∀ i, i < n → f i ≤ mz_mx f n := by
  induction n with
  | zero => intro i hi; omega
  | succ n ih =>
    intro i hi
    rw [mz_mx]
    by_cases c : f n ≤ mz_mx f n
    · rw [if_pos c]
      by_cases e : i = n
      · rw [e]; exact c
      · exact ih i (by omega)
    · rw [if_neg c]
      by_cases e : i = n
      · rw [e]; exact Int32.le_refl _
      · have := ih i (by omega)
        rw [mz_le] at *
        omega
theorem mz_mx_or (f : Nat → Int32) (n : Nat) : mz_mx f n = 0 ∨ ∃ i, i < n ∧ mz_mx f n = f i := by
  induction n with
  | zero => exact Or.inl rfl
  | succ n ih =>
    rw [mz_mx]
    by_cases c : f n ≤ mz_mx f n
    · rw [if_pos c]
      rcases ih with h | ⟨i, h1, h2⟩
      · exact Or.inl h
      · exact Or.inr ⟨i, by omega, h2⟩
    · rw [if_neg c]; exact Or.inr ⟨n, by omega, rfl⟩
theorem mz_mx_le {f g : Nat → Int32} {n m : Nat} (h : ∀ i, i < n → f i = 0 ∨ ∃ j, j < m ∧ f i = g j) : mz_mx f n ≤ mz_mx g m := by
  rcases mz_mx_or f n with e | ⟨i, hi, e⟩
  · rw [e]; exact mz_mx_0 g m
  · rw [e]
    rcases h i hi with e2 | ⟨j, hj, e2⟩
    · rw [e2]; exact mz_mx_0 g m
    · rw [e2]; exact mz_mx_ge g m j hj
theorem zw_most {t a b : Nat} (ht : t < 4) (ha : a < 4) (hb : b < 4) {fn : Nat → Int32} (hT : ∀ x y, xw_ga fn x y = mz_T (mz_ix t a b) x y) : mz_mx fn 1681 = mz_mx (fun c => mz_T (mz_ix t a b) (mz_ex c) (mz_ey c)) 1089 := by
  have l1 : mz_mx fn 1681 ≤ mz_mx (fun c => mz_T (mz_ix t a b) (mz_ex c) (mz_ey c)) 1089 := by
    refine mz_mx_le (fun c hc => ?_)
    rw [zw_fn hT hc]
    by_cases z : mz_T (mz_ix t a b) (nI (c / 41) - nI 20) (nI (c % 41) - nI 20) = 0
    · exact Or.inl z
    · obtain ⟨⟨g1, g2⟩, g3, g4⟩ := mz_Tx ht ha hb z
      obtain ⟨e, he, e1, e2⟩ := mz_e_of g1 g2 g3 g4
      exact Or.inr ⟨e, he, by rw [e1, e2]⟩
  have l2 : mz_mx (fun c => mz_T (mz_ix t a b) (mz_ex c) (mz_ey c)) 1089 ≤ mz_mx fn 1681 := by
    refine mz_mx_le (fun c hc => Or.inr ?_)
    have e1 : (mz_ex c).toInt = (c / 33 : Nat) - 16 := mz_sub_to (by omega) (by omega)
    have e2 : (mz_ey c).toInt = (c % 33 : Nat) - 16 := mz_sub_to (by omega) (by omega)
    have g : xw_in (mz_ex c) (mz_ey c) := ⟨by omega, by omega, by omega, by omega⟩
    exact ⟨xw_cl (mz_ex c) (mz_ey c), xw_cl_lt g, by rw [← hT, xw_ga_in g]⟩
  rw [mz_le] at l1 l2
  exact mz_eq (by omega)
theorem zw_cnt {t a b : Nat} (ht : t < 4) (ha : a < 4) (hb : b < 4) : xw_cnt t a b = mz_s (fun c => yw_cn (mz_ix t a b) c) 1089 := mz_cnt ht ha hb
theorem zw_rc {x y : Int32} (g : xw_rc x y) : ∃ C D : Nat, C < 81 ∧ D < 81 ∧ x = nI C - nI 40 ∧ y = nI D - nI 40 := by
  obtain ⟨g1, g2, g3, g4⟩ := g
  refine ⟨(x.toInt + 40).toNat, (y.toInt + 40).toNat, by omega, by omega, mz_eq ?_, mz_eq ?_⟩
  · rw [mz_sub_to (by omega) (by omega)]; omega
  · rw [mz_sub_to (by omega) (by omega)]; omega
section
variable {t : Nat} {g0 g1 g2 g3 fx fy : Int32} {hA hB nu pr sX sY tX tY : Nat → Int32}
theorem yw_choose {post : SY → Prop} (ht : t < 4) (h : post (nI t, mz_p t, mz_q t, nI (2 * mz_h t), fx, fy, hA, hB, nu, pr, sX, sY, tX, tY)) : wpY_choose post (g0, g1, g2, g3, fx, fy, hA, hB, nu, pr, sX, sY, tX, tY) (nI t) := by
  unfold wpY_choose
  dsimp only
  intro p ep
  have ep' : p = mz_p t := ep
  subst ep'
  match t, ht with
  | 0, _ => exact br_t rfl (br_t rfl h)
  | 1, _ => exact br_f (by decide) (br_f (by decide) (br_t rfl h))
  | 2, _ => exact br_f (by decide) (br_f (by decide) (br_f (by decide) (br_t rfl h)))
  | 3, _ => exact br_f (by decide) (br_f (by decide) (br_f (by decide) (br_f (by decide) h)))
theorem yw_init {post : SY → Prop} (x : Int32) (h : post (nI (xw_clt x), mz_p (xw_clt x), mz_q (xw_clt x), nI (2 * mz_h (xw_clt x)), 0, 0, (fun _ => 0), (fun _ => 0), (fun _ => 0), (fun _ => 0), (fun _ => 0), (fun _ => 0), (fun _ => 0), (fun _ => 0))) : wpY_init post x := by
  have e0 := xw_03.1
  have e3 := xw_03.2
  have l := xw_clt_lt x
  have k := yw_choose (g0 := 0) (g1 := 0) (g2 := 0) (g3 := 0) (post := post) l h
  by_cases c0 : 0 ≤ x
  · have c0' := c0
    rw [mz_le, e0] at c0'
    by_cases c3 : x ≤ 3
    · have c3' := c3
      rw [mz_le, e3] at c3'
      have e : xw_clt x = x.toInt.toNat := by unfold xw_clt; rw [if_neg (by omega), if_neg (by omega)]
      have ex := xw_ofn c0'
      rw [← e] at ex
      rw [← ex] at k
      exact br_t c0 (br_t c3 k)
    · have c3' := c3
      rw [mz_le, e3] at c3'
      have e : xw_clt x = 3 := by unfold xw_clt; rw [if_neg (by omega), if_pos (by omega)]
      rw [e] at k
      exact br_t c0 (br_f c3 k)
  · have c0' := c0
    rw [mz_le, e0] at c0'
    have e : xw_clt x = 0 := by unfold xw_clt; rw [if_pos (by omega)]
    rw [e] at k
    exact br_f c0 k
end
section
variable {t a b : Nat} {gt fx fy : Int32} {hA hB nu pr sX sY tX tY : Nat → Int32}
theorem yw_take {post : Int32 → SY → Prop} {s0 : Nat} (ht : t < 4) (ha : a < 4) (hb : b < 4) (hs : s0 < 2)
    (h : ∀ fx' fy' nu' pr' sX' sY' tX' tY', post (xw_cnt t a b) (gt, (mz_p t), (mz_q t), (nI (2 * mz_h t)), fx', fy', (upd hA s0 (nI a)), (upd hB s0 (nI b)), nu', pr', sX', sY', tX', tY')) : wpY_take post (gt, (mz_p t), (mz_q t), (nI (2 * mz_h t)), fx, fy, hA, hB, nu, pr, sX, sY, tX, tY) (nI s0) (nI a) (nI b) := by
  have es : (nI s0).toNatClampNeg = s0 := nI_clamp (by omega)
  have hv : vp_in (nI s0) 2 := vp_in_nI hs (by decide)
  unfold wpY_take
  dsimp only
  refine br_f (nI_pos (by omega)) (br_f (nI_nlt (a := 3) (b := a) (by omega) (by omega)) (br_f (nI_pos (by omega)) (br_t (nI_le (a := b) (b := 3) (by omega) (by decide)) ⟨hv, fun A1 E1 => ⟨hv, fun A2 E2 => ?_⟩⟩)))
  rw [es] at E1 E2
  subst E1 E2
  refine yw_count ht ha hb hs pk_us pk_us (fun fx' fy' nu' pr' sX' sY' tX' tY' => ?_)
  rw [← zw_cnt ht ha hb]
  exact h fx' fy' nu' pr' sX' sY' tX' tY'
theorem yw_taken {post : Int32 → SY → Prop} {s0 x y : Int32} (g : ¬ xw_hs x y) (h : post (-1) (gt, (mz_p t), (mz_q t), (nI (2 * mz_h t)), fx, fy, hA, hB, nu, pr, sX, sY, tX, tY)) : wpY_take post (gt, (mz_p t), (mz_q t), (nI (2 * mz_h t)), fx, fy, hA, hB, nu, pr, sX, sY, tX, tY) s0 x y := by
  have e0 := xw_03.1
  have e3 := xw_03.2
  unfold wpY_take
  dsimp only
  rw [mz_lt, mz_lt, mz_lt, mz_le, e0, e3]
  refine br_c (fun _ => h) (fun n1 => br_c (fun _ => h) (fun n2 => br_c (fun _ => h) (fun n3 => br_c (fun n4 => absurd ?_ g) (fun _ => h))))
  exact ⟨by omega, by omega, by omega, by omega⟩
end
