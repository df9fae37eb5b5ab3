/-! the component: one number of a table, and a whole table -/
def xw_F (t : Nat) (fn : Nat → Int32) (x y : Int32) (k : Nat) : Int32 := mz_sg k * xw_ga fn (x + 1 - mz_X t k 1 1) (y + 1 - mz_Y t k 1 1)
def xw_nv (t a b : Nat) (fn : Nat → Int32) (x y : Int32) : Int32 := mz_A t a b (x + 1) (y + 1) - (mz_s (xw_F t fn x y) (2 * mz_h t) - xw_F t fn x y 0)
section
variable {t : Nat} {ft f1 f2 f3 f4 : Int32} {aA aB cA cB fn cn : Nat → Int32}

variable {a b : Nat}
theorem xw_nfa2_f {post : Int32 → Prop} {x y x6 : Int32} (ht : t < 4) (hM : xw_M t aA aB cA cB) (h : post (x6 - (mz_s (xw_F t fn x y) (2 * mz_h t) - xw_F t fn x y 0))) :
    ∃ n, wX_numberFromAbove__firstNumbers_74 post x y ft (mz_p t) (mz_q t) (nI (2 * mz_h t)) f1 f2 f3 f4 aA aB cA cB fn cn n x6 1 := by
  have h12 := xw_h12 ht
  have hh := mz_hh t ht
  refine pk_loop (fun n i s => wX_numberFromAbove__firstNumbers_74 post x y ft (mz_p t) (mz_q t) (nI (2 * mz_h t)) f1 f2 f3 f4 aA aB cA cB fn cn n s (nI i)) (fun i s => s = x6 - (mz_s (xw_F t fn x y) i - xw_F t fn x y 0)) (2 * mz_h t) 1 x6 (by omega) ?_ ?_ ?_
  · rw [mz_s, mz_s]; grind
  · intro n s hs
    refine br_t (nI_le (Nat.le_refl _) (by omega)) ?_
    rw [hs]; exact h
  · intro n i s hi hs ih
    refine br_f (nI_ge hi (by omega)) (xw_mF ht hM hi fun x8 e8 => xw_mS ht hM hi fun x9 e9 => xw_sg (by omega) (xw_at_f fun x6' e6 x7' e7 => ?_))
    rw [e7, nI_1]
    refine ih _ ?_
    rw [e6, e8, e9, hs, mz_s, show mz_sg i * xw_ga fn (x + 1 - mz_X t i 1 1) (y + 1 - mz_Y t i 1 1) = xw_F t fn x y i from rfl]; grind
theorem xw_nfa_f {post : Int32 → Prop} {x y : Int32} (ht : t < 4) (hM : xw_M t aA aB cA cB) (h : post (xw_nv t a b fn x y)) :
    wpX_numberFromAbove__firstNumbers post (ft, (mz_p t), (mz_q t), (nI (2 * mz_h t)), f1, f2, f3, f4, aA, aB, cA, cB, fn, cn) x y (nI a) (nI b) := by
  have h12 := xw_h12 ht
  have hh := mz_hh t ht
  unfold wpX_numberFromAbove__firstNumbers
  dsimp only
  refine pk_loop (fun n i s => wX_numberFromAbove__firstNumbers_6 post x y (nI a) (nI b) ft (mz_p t) (mz_q t) (nI (2 * mz_h t)) f1 f2 f3 f4 aA aB cA cB fn cn n s (nI i)) (fun i s => s = mz_s (fun k => mz_sg k * (if mz_X t k (nI a + 1) (nI b + 1) = x + 1 ∧ mz_Y t k (nI a + 1) (nI b + 1) = y + 1 then 1 else 0)) i) (2 * mz_h t) 0 0 (by omega) ?_ ?_ ?_
  · rw [mz_s]
  · intro n s hs
    refine br_t (nI_le (Nat.le_refl _) (by omega)) (xw_nfa2_f ht hM ?_)
    rw [hs]; exact h
  · intro n i s hi hs ih
    refine br_f (nI_ge hi (by omega)) (xw_mF ht hM hi (br_c (fun c1 => xw_mS ht hM hi (br_c (fun c2 => xw_sg (by omega) fun x6' e6 x7' e7 => ?_) fun c2 x7' e7 => ?_)) fun c1 x7' e7 => ?_))
    · rw [e7, nI_1]
      refine ih _ ?_
      rw [e6, hs, mz_s, if_pos ⟨c1, c2⟩]; grind
    · rw [e7, nI_1]
      refine ih _ ?_
      rw [hs, mz_s, if_neg (fun z => c2 z.2)]; grind
    · rw [e7, nI_1]
      refine ih _ ?_
      rw [hs, mz_s, if_neg (fun z => c1 z.1)]; grind
theorem xw_nfa2_c {post : Int32 → Prop} {x y x6 : Int32} (ht : t < 4) (hM : xw_M t aA aB cA cB) (h : post (x6 - (mz_s (xw_F t cn x y) (2 * mz_h t) - xw_F t cn x y 0))) :
    ∃ n, wX_numberFromAbove__countedNumbers_74 post x y ft (mz_p t) (mz_q t) (nI (2 * mz_h t)) f1 f2 f3 f4 aA aB cA cB fn cn n x6 1 := by
  have h12 := xw_h12 ht
  have hh := mz_hh t ht
  refine pk_loop (fun n i s => wX_numberFromAbove__countedNumbers_74 post x y ft (mz_p t) (mz_q t) (nI (2 * mz_h t)) f1 f2 f3 f4 aA aB cA cB fn cn n s (nI i)) (fun i s => s = x6 - (mz_s (xw_F t cn x y) i - xw_F t cn x y 0)) (2 * mz_h t) 1 x6 (by omega) ?_ ?_ ?_
  · rw [mz_s, mz_s]; grind
  · intro n s hs
    refine br_t (nI_le (Nat.le_refl _) (by omega)) ?_
    rw [hs]; exact h
  · intro n i s hi hs ih
    refine br_f (nI_ge hi (by omega)) (xw_mF ht hM hi fun x8 e8 => xw_mS ht hM hi fun x9 e9 => xw_sg (by omega) (xw_at_c fun x6' e6 x7' e7 => ?_))
    rw [e7, nI_1]
    refine ih _ ?_
    rw [e6, e8, e9, hs, mz_s, show mz_sg i * xw_ga cn (x + 1 - mz_X t i 1 1) (y + 1 - mz_Y t i 1 1) = xw_F t cn x y i from rfl]; grind
theorem xw_nfa_c {post : Int32 → Prop} {x y : Int32} (ht : t < 4) (hM : xw_M t aA aB cA cB) (h : post (xw_nv t a b cn x y)) :
    wpX_numberFromAbove__countedNumbers post (ft, (mz_p t), (mz_q t), (nI (2 * mz_h t)), f1, f2, f3, f4, aA, aB, cA, cB, fn, cn) x y (nI a) (nI b) := by
  have h12 := xw_h12 ht
  have hh := mz_hh t ht
  unfold wpX_numberFromAbove__countedNumbers
  dsimp only
  refine pk_loop (fun n i s => wX_numberFromAbove__countedNumbers_6 post x y (nI a) (nI b) ft (mz_p t) (mz_q t) (nI (2 * mz_h t)) f1 f2 f3 f4 aA aB cA cB fn cn n s (nI i)) (fun i s => s = mz_s (fun k => mz_sg k * (if mz_X t k (nI a + 1) (nI b + 1) = x + 1 ∧ mz_Y t k (nI a + 1) (nI b + 1) = y + 1 then 1 else 0)) i) (2 * mz_h t) 0 0 (by omega) ?_ ?_ ?_
  · rw [mz_s]
  · intro n s hs
    refine br_t (nI_le (Nat.le_refl _) (by omega)) (xw_nfa2_c ht hM ?_)
    rw [hs]; exact h
  · intro n i s hi hs ih
    refine br_f (nI_ge hi (by omega)) (xw_mF ht hM hi (br_c (fun c1 => xw_mS ht hM hi (br_c (fun c2 => xw_sg (by omega) fun x6' e6 x7' e7 => ?_) fun c2 x7' e7 => ?_)) fun c1 x7' e7 => ?_))
    · rw [e7, nI_1]
      refine ih _ ?_
      rw [e6, hs, mz_s, if_pos ⟨c1, c2⟩]; grind
    · rw [e7, nI_1]
      refine ih _ ?_
      rw [hs, mz_s, if_neg (fun z => c2 z.2)]; grind
    · rw [e7, nI_1]
      refine ih _ ?_
      rw [hs, mz_s, if_neg (fun z => c1 z.1)]; grind
end
theorem mz_tail {F G : Nat → Int32} {n : Nat} (h0 : 0 < n) (h : ∀ k, k < n → 0 < k → F k = G k) : mz_s F n - F 0 = mz_s G n - G 0 := by
  induction n with
  | zero => omega
  | succ n ih =>
    by_cases c : n = 0
    · subst c
      rw [mz_s, mz_s, mz_s, mz_s]; grind
    · have e := ih (by omega) (fun k hk => h k (by omega))
      rw [mz_s, mz_s, h n (by omega) (by omega)]; grind
/-- what stands in the array when the cells before (i, j) have been gone through -/
def xw_I (t a b i j : Nat) (fn : Nat → Int32) : Prop :=
  (∀ i' j', i' ≤ 18 → j' ≤ 30 → (i' < i ∨ (i' = i ∧ j' < j)) → xw_ga fn (mz_px t a i' j') (mz_py t b i' j') = mz_T (mz_ix t a b) (mz_px t a i' j') (mz_py t b i' j'))
    ∧ (∀ x y, mz_T (mz_ix t a b) x y = 0 → xw_ga fn x y = 0)
/-- a weight of the condition, seen from (i, j): gone through before, or not in the table -/
theorem xw_up {t a b i j k : Nat} (ht : t < 4) (ha : a < 4) (hb : b < 4) (hi : i ≤ 18) (hj : j ≤ 30) (hk : k < 2 * mz_h t) (k0 : 0 < k) :
    (∃ i' j', i' ≤ 18 ∧ j' ≤ 30 ∧ (i' < i ∨ (i' = i ∧ j' < j)) ∧ mz_px t a i j + 1 - mz_X t k 1 1 = mz_px t a i' j' ∧ mz_py t b i j + 1 - mz_Y t k 1 1 = mz_py t b i' j')
      ∨ mz_T (mz_ix t a b) (mz_px t a i j + 1 - mz_X t k 1 1) (mz_py t b i j + 1 - mz_Y t k 1 1) = 0 := by
  obtain ⟨q1, q2⟩ := mz_qi t ht 0 (by omega) 0 (by omega) k hk
  have q3 := mz_qi0 t ht k hk k0
  obtain ⟨b1, b2, b3, b4⟩ := mz_qb0 t ht k hk
  rw [mz_X1 ht hk, mz_Y1 ht hk]
  generalize mz_q1 (mz_ix t 0 0) k = Q1 at *
  generalize mz_q2 (mz_ix t 0 0) k = Q2 at *
  generalize mz_ik t 0 0 k = I at *
  generalize mz_jk t 0 0 k = J at *
  obtain ⟨p1, p2⟩ := mz_pb ht hi hj
  by_cases c : I ≤ i ∧ J ≤ j
  · left
    obtain ⟨i', rfl⟩ : ∃ i', i = i' + I := ⟨i - I, by omega⟩
    obtain ⟨j', rfl⟩ : ∃ j', j = j' + J := ⟨j - J, by omega⟩
    refine ⟨i', j', by omega, by omega, by omega, ?_, ?_⟩
    · have e := congrArg nI q1
      rw [mz_px_eq ht, mz_px_eq ht, Nat.mul_add, Nat.mul_add, ← Nat.add_assoc, ← nI_add (a + mz_K t * j'), ← nI_add (2 * i')]
      rw [← nI_add, ← nI_add, show nI (0 + 13) = 1 + nI 12 by decide] at e
      grind
    · have e := congrArg nI q2
      rw [mz_py_eq, mz_py_eq, Nat.mul_add, Nat.mul_add, ← Nat.add_assoc, ← nI_add (b + mz_P t * i'), ← nI_add (2 * j')]
      rw [← nI_add, ← nI_add, show nI (0 + 21) = 1 + nI 20 by decide] at e
      grind
  · right
    by_cases z : mz_T (mz_ix t a b) (mz_px t a i j + 1 - (nI Q1 - nI 12)) (mz_py t b i j + 1 - (nI Q2 - nI 20)) = 0
    · exact z
    · exfalso
      obtain ⟨i0, j0, _, _, g1, g2, _, _, _, _⟩ := mz_F2 ht ha hb z
      have e1 : mz_px t a i j + 1 - (nI Q1 - nI 12) = nI (a + mz_K t * j + 13) - nI (2 * i + Q1) := by
        rw [mz_px_eq ht, ← nI_add _ 13, ← nI_add _ Q1, show nI 13 = 1 + nI 12 by decide]; grind
      have e2 : mz_py t b i j + 1 - (nI Q2 - nI 20) = nI (b + mz_P t * i + 21) - nI (2 * j + Q2) := by
        rw [mz_py_eq, ← nI_add _ 21, ← nI_add _ Q2, show nI 21 = 1 + nI 20 by decide]; grind
      rw [e1, mz_sub_to (by omega) (by omega)] at g1
      rw [e2, mz_sub_to (by omega) (by omega)] at g2
      clear z e1 e2
      match t, ht with
      | 0, _ => rw [show mz_K 0 = 0 from rfl] at g1 q1; rw [show mz_P 0 = 0 from rfl] at g2 q2; omega
      | 1, _ => rw [show mz_K 1 = 1 from rfl] at g1 q1; rw [show mz_P 1 = 1 from rfl] at g2 q2; omega
      | 2, _ => rw [show mz_K 2 = 1 from rfl] at g1 q1; rw [show mz_P 2 = 2 from rfl] at g2 q2; omega
      | 3, _ => rw [show mz_K 3 = 1 from rfl] at g1 q1; rw [show mz_P 3 = 3 from rfl] at g2 q2; omega
theorem xw_nv_T {t a b i j : Nat} (ht : t < 4) (ha : a < 4) (hb : b < 4) (hi : i ≤ 18) (hj : j ≤ 30) {fn : Nat → Int32} (hI : xw_I t a b i j fn) :
    xw_nv t a b fn (mz_px t a i j) (mz_py t b i j) = mz_T (mz_ix t a b) (mz_px t a i j) (mz_py t b i j) := by
  have hh := mz_hh t ht
  unfold xw_nv
  rw [mz_tail (G := fun k => mz_sg k * mz_T (mz_ix t a b) (mz_px t a i j + 1 - mz_X t k 1 1) (mz_py t b i j + 1 - mz_Y t k 1 1)) (by omega) ?_, mz_F1 ht ha hb, (mz_X0 ht 1 1).1, (mz_X0 ht 1 1).2, show mz_sg 0 = 1 from rfl]
  · rw [show mz_px t a i j + 1 - 1 = mz_px t a i j by grind, show mz_py t b i j + 1 - 1 = mz_py t b i j by grind]; grind
  · intro k hk k0
    unfold xw_F
    refine congrArg (fun z => mz_sg k * z) ?_
    rcases xw_up ht ha hb hi hj hk k0 with ⟨i', j', h1, h2, h3, e1, e2⟩ | z
    · rw [e1, e2]; exact hI.1 i' j' h1 h2 h3
    · rw [z]; exact hI.2 _ _ z
theorem xw_I_s {t a b i j : Nat} {fn fn' : Nat → Int32} (hI : xw_I t a b i j fn)
    (hs : ∀ x y, xw_ga fn' x y = if x = mz_px t a i j ∧ y = mz_py t b i j then mz_T (mz_ix t a b) x y else xw_ga fn x y) : xw_I t a b i (j + 1) fn' := by
  constructor
  · intro i' j' h1 h2 h3
    rw [hs]
    by_cases c : mz_px t a i' j' = mz_px t a i j ∧ mz_py t b i' j' = mz_py t b i j
    · rw [if_pos c]
    · rw [if_neg c]
      refine hI.1 i' j' h1 h2 ?_
      rcases h3 with h3 | ⟨h3, h4⟩
      · exact Or.inl h3
      · refine Or.inr ⟨h3, ?_⟩
        rcases Nat.lt_or_eq_of_le (Nat.le_of_lt_succ h4) with h5 | h5
        · exact h5
        · rw [h3, h5] at c; exact absurd ⟨rfl, rfl⟩ c
  · intro x y z
    rw [hs]
    by_cases c : x = mz_px t a i j ∧ y = mz_py t b i j
    · rw [if_pos c, z]
    · rw [if_neg c]; exact hI.2 x y z
theorem xw_T_out {t a b : Nat} (ht : t < 4) (ha : a < 4) (hb : b < 4) {x y : Int32} (g : ¬ xw_in x y) : mz_T (mz_ix t a b) x y = 0 := by
  by_cases z : mz_T (mz_ix t a b) x y = 0
  · exact z
  · have := mz_Tx ht ha hb z
    exact absurd ⟨by omega, by omega, by omega, by omega⟩ g
theorem xw_I_end {t a b : Nat} (ht : t < 4) (ha : a < 4) (hb : b < 4) {fn : Nat → Int32} (hI : xw_I t a b 19 0 fn) : ∀ x y, xw_ga fn x y = mz_T (mz_ix t a b) x y := by
  intro x y
  by_cases z : mz_T (mz_ix t a b) x y = 0
  · rw [z]; exact hI.2 x y z
  · obtain ⟨i, j, h1, h2, g1, g2, _, _, _, _⟩ := mz_F2 ht ha hb z
    obtain ⟨p1, p2⟩ := mz_pb ht h1 h2
    have e1 : x = mz_px t a i j := mz_eq (by rw [mz_px_eq ht, mz_sub_to (by omega) (by omega)]; omega)
    have e2 : y = mz_py t b i j := mz_eq (by rw [mz_py_eq, mz_sub_to (by omega) (by omega)]; omega)
    rw [e1, e2]; exact hI.1 i j h1 h2 (by omega)
def xw_one (t a b i j : Nat) : Int32 := if mz_T (mz_ix t a b) (mz_px t a i j) (mz_py t b i j) = 0 then 0 else 1
def xw_cnt (t a b : Nat) : Int32 := mz_s (fun i => mz_s (fun j => xw_one t a b i j) 31) 19
section
variable {t : Nat} {ft f1 f2 f3 f4 : Int32} {aA aB cA cB fn cn : Nat → Int32}

variable {a b : Nat}
theorem xw_b38_f {post : Int32 → SX → Prop} {J : Int32 → Int32 → (Nat → Int32) → (Nat → Int32) → (Nat → Int32) → (Nat → Int32) → (Nat → Int32) → (Nat → Int32) → Prop} {c0 : Int32} {i : Nat} (ht : t < 4) (ha : a < 4) (hb : b < 4) (hM : xw_M t aA aB cA cB) (hi : i ≤ 18) (hI : xw_I t a b i 0 fn)
    (h : ∀ fn', xw_I t a b (i + 1) 0 fn' → J (c0 + mz_s (fun j => xw_one t a b i j) 31) (nI (i + 1)) aA aB cA cB fn' cn) :
    ∃ n, wX_build__firstNumbers_38 post J (nI a) (nI b) (nI i) ft (mz_p t) (mz_q t) (nI (2 * mz_h t)) f1 f2 f3 f4 n c0 0 aA aB cA cB fn cn := by
  refine pk_loop (fun n j (s : Int32 × (Nat → Int32)) => wX_build__firstNumbers_38 post J (nI a) (nI b) (nI i) ft (mz_p t) (mz_q t) (nI (2 * mz_h t)) f1 f2 f3 f4 n s.1 (nI j) aA aB cA cB s.2 cn) (fun j s => s.1 = c0 + mz_s (fun j => xw_one t a b i j) j ∧ xw_I t a b i j s.2) 31 0 (c0, fn) (by omega) ⟨?_, hI⟩ ?_ ?_
  · rw [mz_s]; grind
  · rintro n ⟨s1, s2⟩ ⟨h1, h2⟩
    refine br_t (nI_lt (a := 30) (b := 31) (by decide) (by decide)) (fun x5 e5 => ?_)
    dsimp only at h1 h2 ⊢
    rw [e5, nI_1, h1]
    refine h s2 ⟨fun i' j' q1 q2 q3 => h2.1 i' j' q1 q2 (by omega), h2.2⟩
  · rintro n j ⟨s1, s2⟩ hj ⟨h1, h2⟩ ih
    dsimp only at h1 h2 ⊢
    refine br_f (nI_nlt (a := 30) (b := j) (by omega) (by omega)) (fun x7 e7 x8 e8 => ?_)
    have e7' : x7 = mz_px t a i j := e7
    have e8' : x8 = mz_py t b i j := e8
    subst e7' e8'
    by_cases g : xw_in (mz_px t a i j) (mz_py t b i j)
    · refine xw_on g (br_f (by decide) (xw_nfa_f ht hM (xw_cell g ⟨vp_in_nI (xw_cl_lt g) (by decide), fun ar ear => ?_⟩)))
      have l := xw_cl_lt g
      rw [nI_clamp (by omega), xw_nv_T ht ha hb hi (by omega) h2] at ear
      rw [xw_nv_T ht ha hb hi (by omega) h2]
      have hI' : xw_I t a b i (j + 1) ar := by
        refine xw_I_s h2 (fun x y => ?_)
        rw [ear, xw_ga_u g]
        by_cases c : x = mz_px t a i j ∧ y = mz_py t b i j
        · rw [if_pos c, if_pos c, c.1, c.2]
        · rw [if_neg c, if_neg c]
      refine br_c (fun c x4 e4 x6 e6 => ?_) (fun c x4 e4 x6 e6 => ?_)
      · rw [e6, nI_1]
        refine ih (x4, ar) ⟨?_, hI'⟩
        dsimp only
        rw [e4, h1, mz_s, show xw_one t a b i j = 0 from if_pos c]; grind
      · rw [e6, nI_1]
        refine ih (x4, ar) ⟨?_, hI'⟩
        dsimp only
        rw [e4, h1, mz_s, show xw_one t a b i j = 1 from if_neg c]; grind
    · refine xw_off g (br_t rfl (fun x6 e6 => ?_))
      rw [e6, nI_1]
      have z := xw_T_out ht ha hb g
      refine ih (s1, s2) ⟨?_, xw_I_s h2 (fun x y => ?_)⟩
      · dsimp only
        rw [h1, mz_s, show xw_one t a b i j = 0 from if_pos z]; grind
      · by_cases c : x = mz_px t a i j ∧ y = mz_py t b i j
        · rw [if_pos c, c.1, c.2, z, xw_ga_out g]
        · rw [if_neg c]
theorem xw_b28_f {post : Int32 → SX → Prop} (ht : t < 4) (ha : a < 4) (hb : b < 4) (hM : xw_M t aA aB cA cB) (hI : xw_I t a b 0 0 fn)
    (h : ∀ fn', (∀ x y, xw_ga fn' x y = mz_T (mz_ix t a b) x y) → post (xw_cnt t a b) (ft, (mz_p t), (mz_q t), (nI (2 * mz_h t)), f1, f2, f3, f4, aA, aB, cA, cB, fn', cn)) :
    ∃ n, wX_build__firstNumbers_28 post (nI a) (nI b) ft (mz_p t) (mz_q t) (nI (2 * mz_h t)) f1 f2 f3 f4 n 0 0 aA aB cA cB fn cn := by
  refine pk_loop (fun n i (s : Int32 × (Nat → Int32)) => wX_build__firstNumbers_28 post (nI a) (nI b) ft (mz_p t) (mz_q t) (nI (2 * mz_h t)) f1 f2 f3 f4 n s.1 (nI i) aA aB cA cB s.2 cn) (fun i s => s.1 = mz_s (fun i => mz_s (fun j => xw_one t a b i j) 31) i ∧ xw_I t a b i 0 s.2) 19 0 (0, fn) (by omega) ⟨rfl, hI⟩ ?_ ?_
  · rintro n ⟨s1, s2⟩ ⟨h1, h2⟩
    dsimp only at h1 h2 ⊢
    refine br_t (nI_lt (a := 18) (b := 19) (by decide) (by decide)) ?_
    rw [h1]
    exact h s2 (xw_I_end ht ha hb h2)
  · rintro n i ⟨s1, s2⟩ hi ⟨h1, h2⟩ ih
    dsimp only at h1 h2 ⊢
    refine br_f (nI_nlt (a := 18) (b := i) (by omega) (by omega)) (xw_b38_f ht ha hb hM (by omega) h2 (fun ar har => ?_))
    refine ih (_, ar) ⟨?_, har⟩
    dsimp only
    rw [h1]; rfl
theorem xw_build_f {post : Int32 → SX → Prop} (ht : t < 4) (ha : a < 4) (hb : b < 4) (hM : xw_M t aA aB cA cB)
    (h : ∀ fn', (∀ x y, xw_ga fn' x y = mz_T (mz_ix t a b) x y) → post (xw_cnt t a b) (ft, (mz_p t), (mz_q t), (nI (2 * mz_h t)), f1, f2, f3, f4, aA, aB, cA, cB, fn', cn)) :
    wpX_build__firstNumbers post (ft, (mz_p t), (mz_q t), (nI (2 * mz_h t)), f1, f2, f3, f4, aA, aB, cA, cB, fn, cn) (nI a) (nI b) := by
  unfold wpX_build__firstNumbers
  dsimp only
  refine pk_loop (fun n i (s : Nat → Int32) => wX_build__firstNumbers_3 post (nI a) (nI b) ft (mz_p t) (mz_q t) (nI (2 * mz_h t)) f1 f2 f3 f4 n (nI i) aA aB cA cB s cn) (fun i s => ∀ c, c < i → s c = 0) 1681 0 fn (by omega) (fun c hc => by omega) ?_ ?_
  · intro n s hs
    refine br_t (nI_le (a := 1681) (b := 1681) (by decide) (by decide)) (xw_b28_f ht ha hb hM ⟨fun i' j' _ _ q => by omega, fun x y _ => ?_⟩ h)
    by_cases g : xw_in x y
    · rw [xw_ga_in g]; exact hs _ (xw_cl_lt g)
    · exact xw_ga_out g
  · intro n i s hi hs ih
    refine br_f (nI_ge (b := 1681) hi (by decide)) ⟨vp_in_nI hi (by decide), fun ar ear x4 e4 => ?_⟩
    rw [e4, nI_1]
    refine ih ar (fun c hc => ?_)
    rw [ear, nI_clamp (by omega)]
    by_cases e : c = i
    · rw [e, pk_us]
    · rw [pk_un e]; exact hs c (by omega)
theorem xw_b38_c {post : Int32 → SX → Prop} {J : Int32 → Int32 → (Nat → Int32) → (Nat → Int32) → (Nat → Int32) → (Nat → Int32) → (Nat → Int32) → (Nat → Int32) → Prop} {c0 : Int32} {i : Nat} (ht : t < 4) (ha : a < 4) (hb : b < 4) (hM : xw_M t aA aB cA cB) (hi : i ≤ 18) (hI : xw_I t a b i 0 cn)
    (h : ∀ cn', xw_I t a b (i + 1) 0 cn' → J (c0 + mz_s (fun j => xw_one t a b i j) 31) (nI (i + 1)) aA aB cA cB fn cn') :
    ∃ n, wX_build__countedNumbers_38 post J (nI a) (nI b) (nI i) ft (mz_p t) (mz_q t) (nI (2 * mz_h t)) f1 f2 f3 f4 n c0 0 aA aB cA cB fn cn := by
  refine pk_loop (fun n j (s : Int32 × (Nat → Int32)) => wX_build__countedNumbers_38 post J (nI a) (nI b) (nI i) ft (mz_p t) (mz_q t) (nI (2 * mz_h t)) f1 f2 f3 f4 n s.1 (nI j) aA aB cA cB fn s.2) (fun j s => s.1 = c0 + mz_s (fun j => xw_one t a b i j) j ∧ xw_I t a b i j s.2) 31 0 (c0, cn) (by omega) ⟨?_, hI⟩ ?_ ?_
  · rw [mz_s]; grind
  · rintro n ⟨s1, s2⟩ ⟨h1, h2⟩
    refine br_t (nI_lt (a := 30) (b := 31) (by decide) (by decide)) (fun x5 e5 => ?_)
    dsimp only at h1 h2 ⊢
    rw [e5, nI_1, h1]
    refine h s2 ⟨fun i' j' q1 q2 q3 => h2.1 i' j' q1 q2 (by omega), h2.2⟩
  · rintro n j ⟨s1, s2⟩ hj ⟨h1, h2⟩ ih
    dsimp only at h1 h2 ⊢
    refine br_f (nI_nlt (a := 30) (b := j) (by omega) (by omega)) (fun x7 e7 x8 e8 => ?_)
    have e7' : x7 = mz_px t a i j := e7
    have e8' : x8 = mz_py t b i j := e8
    subst e7' e8'
    by_cases g : xw_in (mz_px t a i j) (mz_py t b i j)
    · refine xw_on g (br_f (by decide) (xw_nfa_c ht hM (xw_cell g ⟨vp_in_nI (xw_cl_lt g) (by decide), fun ar ear => ?_⟩)))
      have l := xw_cl_lt g
      rw [nI_clamp (by omega), xw_nv_T ht ha hb hi (by omega) h2] at ear
      rw [xw_nv_T ht ha hb hi (by omega) h2]
      have hI' : xw_I t a b i (j + 1) ar := by
        refine xw_I_s h2 (fun x y => ?_)
        rw [ear, xw_ga_u g]
        by_cases c : x = mz_px t a i j ∧ y = mz_py t b i j
        · rw [if_pos c, if_pos c, c.1, c.2]
        · rw [if_neg c, if_neg c]
      refine br_c (fun c x4 e4 x6 e6 => ?_) (fun c x4 e4 x6 e6 => ?_)
      · rw [e6, nI_1]
        refine ih (x4, ar) ⟨?_, hI'⟩
        dsimp only
        rw [e4, h1, mz_s, show xw_one t a b i j = 0 from if_pos c]; grind
      · rw [e6, nI_1]
        refine ih (x4, ar) ⟨?_, hI'⟩
        dsimp only
        rw [e4, h1, mz_s, show xw_one t a b i j = 1 from if_neg c]; grind
    · refine xw_off g (br_t rfl (fun x6 e6 => ?_))
      rw [e6, nI_1]
      have z := xw_T_out ht ha hb g
      refine ih (s1, s2) ⟨?_, xw_I_s h2 (fun x y => ?_)⟩
      · dsimp only
        rw [h1, mz_s, show xw_one t a b i j = 0 from if_pos z]; grind
      · by_cases c : x = mz_px t a i j ∧ y = mz_py t b i j
        · rw [if_pos c, c.1, c.2, z, xw_ga_out g]
        · rw [if_neg c]
theorem xw_b28_c {post : Int32 → SX → Prop} (ht : t < 4) (ha : a < 4) (hb : b < 4) (hM : xw_M t aA aB cA cB) (hI : xw_I t a b 0 0 cn)
    (h : ∀ cn', (∀ x y, xw_ga cn' x y = mz_T (mz_ix t a b) x y) → post (xw_cnt t a b) (ft, (mz_p t), (mz_q t), (nI (2 * mz_h t)), f1, f2, f3, f4, aA, aB, cA, cB, fn, cn')) :
    ∃ n, wX_build__countedNumbers_28 post (nI a) (nI b) ft (mz_p t) (mz_q t) (nI (2 * mz_h t)) f1 f2 f3 f4 n 0 0 aA aB cA cB fn cn := by
  refine pk_loop (fun n i (s : Int32 × (Nat → Int32)) => wX_build__countedNumbers_28 post (nI a) (nI b) ft (mz_p t) (mz_q t) (nI (2 * mz_h t)) f1 f2 f3 f4 n s.1 (nI i) aA aB cA cB fn s.2) (fun i s => s.1 = mz_s (fun i => mz_s (fun j => xw_one t a b i j) 31) i ∧ xw_I t a b i 0 s.2) 19 0 (0, cn) (by omega) ⟨rfl, hI⟩ ?_ ?_
  · rintro n ⟨s1, s2⟩ ⟨h1, h2⟩
    dsimp only at h1 h2 ⊢
    refine br_t (nI_lt (a := 18) (b := 19) (by decide) (by decide)) ?_
    rw [h1]
    exact h s2 (xw_I_end ht ha hb h2)
  · rintro n i ⟨s1, s2⟩ hi ⟨h1, h2⟩ ih
    dsimp only at h1 h2 ⊢
    refine br_f (nI_nlt (a := 18) (b := i) (by omega) (by omega)) (xw_b38_c ht ha hb hM (by omega) h2 (fun ar har => ?_))
    refine ih (_, ar) ⟨?_, har⟩
    dsimp only
    rw [h1]; rfl
theorem xw_build_c {post : Int32 → SX → Prop} (ht : t < 4) (ha : a < 4) (hb : b < 4) (hM : xw_M t aA aB cA cB)
    (h : ∀ cn', (∀ x y, xw_ga cn' x y = mz_T (mz_ix t a b) x y) → post (xw_cnt t a b) (ft, (mz_p t), (mz_q t), (nI (2 * mz_h t)), f1, f2, f3, f4, aA, aB, cA, cB, fn, cn')) :
    wpX_build__countedNumbers post (ft, (mz_p t), (mz_q t), (nI (2 * mz_h t)), f1, f2, f3, f4, aA, aB, cA, cB, fn, cn) (nI a) (nI b) := by
  unfold wpX_build__countedNumbers
  dsimp only
  refine pk_loop (fun n i (s : Nat → Int32) => wX_build__countedNumbers_3 post (nI a) (nI b) ft (mz_p t) (mz_q t) (nI (2 * mz_h t)) f1 f2 f3 f4 n (nI i) aA aB cA cB fn s) (fun i s => ∀ c, c < i → s c = 0) 1681 0 cn (by omega) (fun c hc => by omega) ?_ ?_
  · intro n s hs
    refine br_t (nI_le (a := 1681) (b := 1681) (by decide) (by decide)) (xw_b28_c ht ha hb hM ⟨fun i' j' _ _ q => by omega, fun x y _ => ?_⟩ h)
    by_cases g : xw_in x y
    · rw [xw_ga_in g]; exact hs _ (xw_cl_lt g)
    · exact xw_ga_out g
  · intro n i s hi hs ih
    refine br_f (nI_ge (b := 1681) hi (by decide)) ⟨vp_in_nI hi (by decide), fun ar ear x4 e4 => ?_⟩
    rw [e4, nI_1]
    refine ih ar (fun c hc => ?_)
    rw [ear, nI_clamp (by omega)]
    by_cases e : c = i
    · rw [e, pk_us]
    · rw [pk_un e]; exact hs c (by omega)
end
