/-! the component: small methods -/
def xw_M (t : Nat) (aA aB cA cB : Nat → Int32) : Prop := ∀ k, k < 2 * mz_h t → aA k = mz_ma t k ∧ aB k = mz_mb t k ∧ cA k = mz_mc t k ∧ cB k = mz_md t k
theorem xw_h12 {t : Nat} (ht : t < 4) : 2 * mz_h t ≤ 12 := by have := mz_hh t ht; omega
section
variable {t : Nat} {ft f1 f2 f3 f4 : Int32} {aA aB cA cB fn cn : Nat → Int32}

theorem xw_mF {k : Nat} {post : Int32 → Prop} {x y : Int32} (ht : t < 4) (hM : xw_M t aA aB cA cB) (hk : k < 2 * mz_h t) (h : post (mz_X t k x y)) : wpX_movedFirst post (ft, (mz_p t), (mz_q t), (nI (2 * mz_h t)), f1, f2, f3, f4, aA, aB, cA, cB, fn, cn) (nI k) x y := by
  have := xw_h12 ht
  unfold wpX_movedFirst
  dsimp only
  rw [nI_clamp (by omega), (hM k hk).1, (hM k hk).2.1]
  exact ⟨vp_in_nI (by omega) (by omega), vp_in_nI (by omega) (by omega), h⟩
theorem xw_mS {k : Nat} {post : Int32 → Prop} {x y : Int32} (ht : t < 4) (hM : xw_M t aA aB cA cB) (hk : k < 2 * mz_h t) (h : post (mz_Y t k x y)) : wpX_movedSecond post (ft, (mz_p t), (mz_q t), (nI (2 * mz_h t)), f1, f2, f3, f4, aA, aB, cA, cB, fn, cn) (nI k) x y := by
  have := xw_h12 ht
  unfold wpX_movedSecond
  dsimp only
  rw [nI_clamp (by omega), (hM k hk).2.2.1, (hM k hk).2.2.2]
  exact ⟨vp_in_nI (by omega) (by omega), vp_in_nI (by omega) (by omega), h⟩
theorem xw_rem2 {k : Nat} (hk : k < 1000) : nI k - nI k / 2 * 2 = nI (k % 2) := pk_rem (d := 2) (by omega) (by omega) (by omega)
theorem xw_sg {k : Nat} {post : Int32 → Prop} (hk : k < 1000) (h : post (mz_sg k)) : wpX_sign post (nI k) := by
  unfold wpX_sign
  rw [xw_rem2 hk]
  refine ⟨by decide, ?_⟩
  unfold mz_sg at h
  by_cases c : k % 2 = 0
  · rw [if_pos c] at h
    rw [c]; exact br_t nI_0 h
  · rw [if_neg c] at h
    exact br_f (nI_ne0 (by omega) (by omega)) h
def xw_in (x y : Int32) : Prop := -20 ≤ x.toInt ∧ x.toInt ≤ 20 ∧ -20 ≤ y.toInt ∧ y.toInt ≤ 20
theorem xw_20 : (-20 : Int32).toInt = -20 ∧ (20 : Int32).toInt = 20 := by decide
theorem xw_on {post : Int32 → Prop} {x y : Int32} (g : xw_in x y) (h : post 1) : wpX_onGrid post x y := by
  obtain ⟨g1, g2, g3, g4⟩ := g
  have e1 := xw_20.1
  have e2 := xw_20.2
  exact br_f (by rw [mz_lt]; omega) (br_f (by rw [mz_lt]; omega) (br_f (by rw [mz_lt]; omega) (br_f (by rw [mz_lt]; omega) h)))
theorem xw_off {post : Int32 → Prop} {x y : Int32} (g : ¬ xw_in x y) (h : post 0) : wpX_onGrid post x y := by
  have e1 := xw_20.1
  have e2 := xw_20.2
  unfold wpX_onGrid
  rw [mz_lt, mz_lt, mz_lt, mz_lt, e1, e2]
  refine br_c (fun _ => h) (fun n1 => br_c (fun _ => h) (fun n2 => br_c (fun _ => h) (fun n3 => br_c (fun _ => h) (fun n4 => absurd ?_ g))))
  exact ⟨by omega, by omega, by omega, by omega⟩
def xw_cl (x y : Int32) : Nat := (41 * (x.toInt + 20) + (y.toInt + 20)).toNat
theorem xw_cl_lt {x y : Int32} (g : xw_in x y) : xw_cl x y < 1681 := by
  obtain ⟨g1, g2, g3, g4⟩ := g
  unfold xw_cl; omega
theorem xw_cl_eq {x y : Int32} (g : xw_in x y) : ((x + 20) * 41 + y) + 20 = nI (xw_cl x y) := by
  obtain ⟨g1, g2, g3, g4⟩ := g
  obtain ⟨z, hz1, hz2⟩ : ∃ z : Int, x = mz_i z ∧ x.toInt = z := ⟨_, mz_of _, rfl⟩
  obtain ⟨w, hw1, hw2⟩ : ∃ z : Int, y = mz_i z ∧ y.toInt = z := ⟨_, mz_of _, rfl⟩
  unfold xw_cl
  rw [hz2, hw2, hz1, hw1, show (20 : Int32) = mz_i 20 from by decide, show (41 : Int32) = mz_i 41 from by decide, mz_add, mz_mul, mz_add, mz_add, mz_nat]
  exact congrArg mz_i (by omega)
theorem xw_cell {post : Int32 → Prop} {x y : Int32} (g : xw_in x y) (h : post (nI (xw_cl x y))) : wpX_cell post x y := by
  unfold wpX_cell
  rw [xw_cl_eq g]; exact h
/-- the number of (x, y) in an array of the component -/
def xw_ga (fn : Nat → Int32) (x y : Int32) : Int32 := if -20 ≤ x.toInt ∧ x.toInt ≤ 20 ∧ -20 ≤ y.toInt ∧ y.toInt ≤ 20 then fn (xw_cl x y) else 0
theorem xw_ga_in {fn : Nat → Int32} {x y : Int32} (g : xw_in x y) : xw_ga fn x y = fn (xw_cl x y) := if_pos g
theorem xw_ga_out {fn : Nat → Int32} {x y : Int32} (g : ¬ xw_in x y) : xw_ga fn x y = 0 := if_neg g
theorem xw_ga_u {fn : Nat → Int32} {x y v : Int32} (g : xw_in x y) (x' y' : Int32) : xw_ga (upd fn (xw_cl x y) v) x' y' = if x' = x ∧ y' = y then v else xw_ga fn x' y' := by
  by_cases g' : xw_in x' y'
  · rw [xw_ga_in g', xw_ga_in g']
    by_cases c : x' = x ∧ y' = y
    · rw [if_pos c, c.1, c.2, pk_us]
    · rw [if_neg c, pk_un]
      intro z
      apply c
      obtain ⟨g1, g2, g3, g4⟩ := g
      obtain ⟨k1, k2, k3, k4⟩ := g'
      unfold xw_cl at z
      exact ⟨mz_eq (by omega), mz_eq (by omega)⟩
  · rw [xw_ga_out g', xw_ga_out g', if_neg]
    rintro ⟨c1, c2⟩
    rw [c1, c2] at g'
    exact g' g
theorem xw_at_f {post : Int32 → Prop} {x y : Int32} (h : post (xw_ga fn x y)) : wpX_numberAt__firstNumbers post (ft, (mz_p t), (mz_q t), (nI (2 * mz_h t)), f1, f2, f3, f4, aA, aB, cA, cB, fn, cn) x y := by
  unfold wpX_numberAt__firstNumbers
  dsimp only
  by_cases g : xw_in x y
  · rw [xw_ga_in g] at h
    have l := xw_cl_lt g
    refine xw_on g (br_f (by decide) (xw_cell g ?_))
    rw [nI_clamp (by omega)]
    exact ⟨vp_in_nI l (by omega), h⟩
  · rw [xw_ga_out g] at h
    exact xw_off g (br_t rfl h)
theorem xw_at_c {post : Int32 → Prop} {x y : Int32} (h : post (xw_ga cn x y)) : wpX_numberAt__countedNumbers post (ft, (mz_p t), (mz_q t), (nI (2 * mz_h t)), f1, f2, f3, f4, aA, aB, cA, cB, fn, cn) x y := by
  unfold wpX_numberAt__countedNumbers
  dsimp only
  by_cases g : xw_in x y
  · rw [xw_ga_in g] at h
    have l := xw_cl_lt g
    refine xw_on g (br_f (by decide) (xw_cell g ?_))
    rw [nI_clamp (by omega)]
    exact ⟨vp_in_nI l (by omega), h⟩
  · rw [xw_ga_out g] at h
    exact xw_off g (br_t rfl h)
end
