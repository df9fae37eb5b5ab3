/-! the table as a function of two ints -/
def mz_T (i : Nat) (x y : Int32) : Int32 :=
  if -15 ≤ x.toInt ∧ x.toInt ≤ 22 ∧ -25 ≤ y.toInt ∧ y.toInt ≤ 38 then nI (mz_dg (mz_tb i) (64 * (x.toInt + 15) + (y.toInt + 25)).toNat) else 0
theorem mz_T_at (i : Nat) {X Y : Nat} (hX : X < 38) (hY : Y < 64) : mz_T i (nI X - nI 15) (nI Y - nI 25) = nI (mz_dg (mz_tb i) (64 * X + Y)) := by
  have e1 := mz_sub_to (X := X) (c := 15) (by omega) (by omega)
  have e2 := mz_sub_to (X := Y) (c := 25) (by omega) (by omega)
  unfold mz_T
  rw [e1, e2, if_pos (by omega)]
  exact congrArg (fun c => nI (mz_dg (mz_tb i) c)) (by omega)
theorem mz_T_ex {i : Nat} {x y : Int32} (h : mz_T i x y ≠ 0) : ∃ X Y : Nat, X < 38 ∧ Y < 64 ∧ x = nI X - nI 15 ∧ y = nI Y - nI 25 ∧ mz_dg (mz_tb i) (64 * X + Y) ≠ 0 := by
  by_cases c : -15 ≤ x.toInt ∧ x.toInt ≤ 22 ∧ -25 ≤ y.toInt ∧ y.toInt ≤ 38
  · refine ⟨(x.toInt + 15).toNat, (y.toInt + 25).toNat, by omega, by omega, ?_, ?_, ?_⟩
    · exact mz_eq (by rw [mz_sub_to (by omega) (by omega)]; omega)
    · exact mz_eq (by rw [mz_sub_to (by omega) (by omega)]; omega)
    · intro z
      apply h
      unfold mz_T
      rw [if_pos c, show (64 * (x.toInt + 15) + (y.toInt + 25)).toNat = 64 * (x.toInt + 15).toNat + (y.toInt + 25).toNat by omega, z]
      rfl
  · exact absurd (if_neg c) h
theorem mz_T_nn (i : Nat) (x y : Int32) : ∃ n : Nat, n < 256 ∧ mz_T i x y = nI n := by
  unfold mz_T
  by_cases c : -15 ≤ x.toInt ∧ x.toInt ≤ 22 ∧ -25 ≤ y.toInt ∧ y.toInt ≤ 38
  · rw [if_pos c]; exact ⟨_, mz_dg_lt _ _, rfl⟩
  · rw [if_neg c]; exact ⟨0, by decide, rfl⟩
theorem mz_F2 {t a b : Nat} (ht : t < 4) (ha : a < 4) (hb : b < 4) {x y : Int32} (h : mz_T (mz_ix t a b) x y ≠ 0) :
    ∃ i j : Nat, i ≤ 18 ∧ j ≤ 30 ∧ x.toInt = (a : Int) - 2 * (i : Int) + ((mz_K t * j : Nat) : Int) ∧ y.toInt = (b : Int) - 2 * (j : Int) + ((mz_P t * i : Nat) : Int)
      ∧ -9 ≤ x.toInt ∧ x.toInt ≤ 9 ∧ -15 ≤ y.toInt ∧ y.toInt ≤ 15 := by
  obtain ⟨X, Y, hX, hY, rfl, rfl, hd⟩ := mz_T_ex h
  have c := mz_aS (mz_ix t a b) (mz_ix_lt ht ha hb)
  rw [mz_ix_t ha hb, mz_ix_a ha hb, mz_ix_b hb] at c
  have c2 := mz_al_of (mz_al_of c X hX) Y hY
  have hd' : Nat.beq (mz_dg (mz_tb (mz_ix t a b)) (Nat.add (Nat.mul 64 X) Y)) 0 = false := by
    cases hb : Nat.beq (mz_dg (mz_tb (mz_ix t a b)) (Nat.add (Nat.mul 64 X) Y)) 0 with
    | true => exact absurd (Nat.eq_of_beq_eq_true hb) hd
    | false => rfl
  rw [hd'] at c2
  dsimp only [cond] at c2
  revert c2
  generalize (Nat.div (Nat.sub (Nat.add (Nat.mul 2 (Nat.add a 15)) (Nat.mul (mz_K t) (Nat.add b 25))) (Nat.add (Nat.mul 2 X) (Nat.mul (mz_K t) Y))) (mz_D t)) = i
  generalize (Nat.div (Nat.sub (Nat.add (Nat.mul 2 (Nat.add b 25)) (Nat.mul (mz_P t) (Nat.add a 15))) (Nat.add (Nat.mul 2 Y) (Nat.mul (mz_P t) X))) (mz_D t)) = j
  intro c2
  simp only [Bool.and_eq_true] at c2
  obtain ⟨h1, h2, h3, h4, h5, h6, h7, h8⟩ := c2
  have h1 : 6 ≤ X := Nat.le_of_ble_eq_true h1
  have h2 : X ≤ 24 := Nat.le_of_ble_eq_true h2
  have h3 : 10 ≤ Y := Nat.le_of_ble_eq_true h3
  have h4 : Y ≤ 40 := Nat.le_of_ble_eq_true h4
  have h5 : i ≤ 18 := Nat.le_of_ble_eq_true h5
  have h6 : j ≤ 30 := Nat.le_of_ble_eq_true h6
  have h7 : X + 2 * i = a + 15 + mz_K t * j := Nat.eq_of_beq_eq_true h7
  have h8 : Y + 2 * j = b + 25 + mz_P t * i := Nat.eq_of_beq_eq_true h8
  have e1 := mz_sub_to (X := X) (c := 15) (by omega) (by omega)
  have e2 := mz_sub_to (X := Y) (c := 25) (by omega) (by omega)
  exact ⟨i, j, h5, h6, by omega, by omega, by omega, by omega, by omega, by omega⟩
/-- what the document's condition asks at (u, v) -/
def mz_A (t a b : Nat) (u v : Int32) : Int32 := mz_s (fun k => mz_sg k * (if mz_X t k (nI a + 1) (nI b + 1) = u ∧ mz_Y t k (nI a + 1) (nI b + 1) = v then 1 else 0)) (2 * mz_h t)
theorem mz_one : (nI 0 + 1 : Int32) = 1 := by decide
theorem mz_X1 {t k : Nat} (ht : t < 4) (hk : k < 2 * mz_h t) : mz_X t k 1 1 = nI (mz_q1 (mz_ix t 0 0) k) - nI 12 := by
  have := mz_qX t ht 0 (by decide) 0 (by decide) k hk
  rw [mz_one] at this; exact this
theorem mz_Y1 {t k : Nat} (ht : t < 4) (hk : k < 2 * mz_h t) : mz_Y t k 1 1 = nI (mz_q2 (mz_ix t 0 0) k) - nI 20 := by
  have := mz_qY t ht 0 (by decide) 0 (by decide) k hk
  rw [mz_one] at this; exact this
theorem mz_shift {U c m : Nat} (c' : Nat) (h : m ≤ U + c') : (nI U - nI c) - (nI m - nI c) = nI (U + c' - m) - nI c' := by
  rw [← pk_sub h, ← nI_add]; grind
/-- digit of the table at a shifted place -/
theorem mz_T_sh {t a b U V k : Nat} (ht : t < 4) (hU : U < 25) (hV : V < 41) (hk : k < 2 * mz_h t) :
    mz_T (mz_ix t a b) (nI U - nI 12 - mz_X t k 1 1) (nI V - nI 20 - mz_Y t k 1 1) = nI (mz_dg (mz_tb (mz_ix t a b)) (Nat.sub (Nat.add (Nat.add (Nat.mul 64 U) V) 985) (mz_ob (mz_Q (mz_ix t 0 0)) k))) := by
  obtain ⟨b1, b2, b3, b4⟩ := mz_qb0 t ht k hk
  rw [mz_X1 ht hk, mz_Y1 ht hk, mz_shift 15 (by omega), mz_shift 25 (by omega), mz_T_at _ (by omega) (by omega)]
  refine congrArg (fun c => nI (mz_dg (mz_tb (mz_ix t a b)) c)) ?_
  show _ = (64 * U + V + 985) - mz_ob (mz_Q (mz_ix t 0 0)) k
  have e : mz_ob (mz_Q (mz_ix t 0 0)) k = 64 * mz_q1 (mz_ix t 0 0) k + mz_q2 (mz_ix t 0 0) k := by unfold mz_q1 mz_q2; omega
  omega
theorem mz_A_in {t a b U V k : Nat} (ht : t < 4) (ha : a < 4) (hb : b < 4) (hU : U < 25) (hV : V < 41) (hk : k < 2 * mz_h t) :
    (if mz_X t k (nI a + 1) (nI b + 1) = nI U - nI 12 ∧ mz_Y t k (nI a + 1) (nI b + 1) = nI V - nI 20 then (1 : Int32) else 0) = nI (mz_in (Nat.add (Nat.mul 64 U) V) (mz_ob (mz_Q (mz_ix t a b)) k)) := by
  obtain ⟨b1, b2⟩ := mz_qb t ht a ha b hb k hk
  rw [mz_qX t ht a ha b hb k hk, mz_qY t ht a ha b hb k hk]
  have e : mz_ob (mz_Q (mz_ix t a b)) k = 64 * mz_q1 (mz_ix t a b) k + mz_q2 (mz_ix t a b) k := by unfold mz_q1 mz_q2; omega
  by_cases c : Nat.add (Nat.mul 64 U) V = mz_ob (mz_Q (mz_ix t a b)) k
  · rw [c, mz_in_1]
    have c' : 64 * U + V = mz_ob (mz_Q (mz_ix t a b)) k := c
    have e1 : mz_q1 (mz_ix t a b) k = U := by omega
    have e2 : mz_q2 (mz_ix t a b) k = V := by omega
    rw [e1, e2, if_pos ⟨rfl, rfl⟩]; rfl
  · rw [mz_in_0 c]
    refine if_neg ?_
    rintro ⟨z1, z2⟩
    have c' : ¬ 64 * U + V = mz_ob (mz_Q (mz_ix t a b)) k := c
    have f1 := congrArg Int32.toInt z1
    have f2 := congrArg Int32.toInt z2
    rw [mz_sub_to (by omega) (by omega), mz_sub_to (by omega) (by omega)] at f1 f2
    omega
theorem mz_bx {u : Int32} {m c B : Nat} (h1 : 0 ≤ (u - (nI m - nI c)).toInt + m) (h2 : (u - (nI m - nI c)).toInt + m < B) : ∃ U : Nat, U < B ∧ u = nI U - nI c := by
  have e : u = (u - (nI m - nI c)) + (nI m - nI c) := by grind
  obtain ⟨z, hz1, hz2⟩ : ∃ z : Int, u - (nI m - nI c) = mz_i z ∧ (u - (nI m - nI c)).toInt = z := ⟨_, mz_of _, rfl⟩
  rw [hz2] at h1 h2
  refine ⟨(z + m).toNat, by omega, ?_⟩
  rw [e, hz1, mz_nat, mz_nat, mz_nat, mz_sub, mz_add, mz_sub]
  exact congrArg mz_i (by omega)
theorem mz_c4 {A B C D : Nat} (h : Nat.add A B = Nat.add C D) : nI A + nI B = nI C + nI D := by rw [nI_add, nI_add]; exact congrArg nI h
theorem mz_c5 {p q r s : Int32} (h : p + q = r + s) : p - r = s - q := by grind
/-- the document's condition, at every place -/
theorem mz_F1 {t a b : Nat} (ht : t < 4) (ha : a < 4) (hb : b < 4) (u v : Int32) :
    mz_s (fun k => mz_sg k * mz_T (mz_ix t a b) (u - mz_X t k 1 1) (v - mz_Y t k 1 1)) (2 * mz_h t) = mz_A t a b u v := by
  by_cases c : (∃ U, U < 25 ∧ u = nI U - nI 12) ∧ (∃ V, V < 41 ∧ v = nI V - nI 20)
  · obtain ⟨⟨U, hU, rfl⟩, V, hV, rfl⟩ := c
    have cF := mz_aF (mz_ix t a b) (mz_ix_lt ht ha hb)
    rw [mz_ix_t ha hb] at cF
    have c2 := Nat.eq_of_beq_eq_true (mz_al_of (mz_al_of cF U hU) V hV)
    have e0 : 16 * t = mz_ix t 0 0 := rfl
    rw [e0] at c2
    have c3 := mz_c4 c2
    rw [mz_ns_s, mz_ns_s, mz_ns_s, mz_ns_s] at c3
    unfold mz_A
    rw [mz_pair (fun k => mz_T (mz_ix t a b) (nI U - nI 12 - mz_X t k 1 1) (nI V - nI 20 - mz_Y t k 1 1)), mz_pair (fun k => if mz_X t k (nI a + 1) (nI b + 1) = nI U - nI 12 ∧ mz_Y t k (nI a + 1) (nI b + 1) = nI V - nI 20 then (1 : Int32) else 0)]
    rw [mz_s_c (fun j hj => mz_T_sh (a := a) (b := b) ht hU hV (k := 2 * j) (by omega)), mz_s_c (fun j hj => mz_T_sh (a := a) (b := b) ht hU hV (k := 2 * j + 1) (by omega)),
      mz_s_c (fun j hj => mz_A_in ht ha hb hU hV (k := 2 * j) (by omega)), mz_s_c (fun j hj => mz_A_in ht ha hb hU hV (k := 2 * j + 1) (by omega))]
    exact mz_c5 c3
  · unfold mz_A
    rw [mz_s_0, mz_s_0]
    · intro k hk
      rw [if_neg, Int32.mul_zero]
      rintro ⟨z1, z2⟩
      obtain ⟨b1, b2⟩ := mz_qb t ht a ha b hb k hk
      exact c ⟨⟨_, b1, z1.symm.trans (mz_qX t ht a ha b hb k hk)⟩, ⟨_, b2, z2.symm.trans (mz_qY t ht a ha b hb k hk)⟩⟩
    · intro k hk
      by_cases z : mz_T (mz_ix t a b) (u - mz_X t k 1 1) (v - mz_Y t k 1 1) = 0
      · rw [z, Int32.mul_zero]
      · exfalso
        obtain ⟨_, _, _, _, _, _, g1, g2, g3, g4⟩ := mz_F2 ht ha hb z
        obtain ⟨b1, b2, b3, b4⟩ := mz_qb0 t ht k hk
        rw [mz_X1 ht hk] at g1 g2
        rw [mz_Y1 ht hk] at g3 g4
        exact c ⟨mz_bx (m := mz_q1 (mz_ix t 0 0) k) (by omega) (by omega), mz_bx (m := mz_q2 (mz_ix t 0 0) k) (by omega) (by omega)⟩
/-! products -/
def mz_ex (e : Nat) : Int32 := nI (e / 33) - nI 16
def mz_ey (e : Nat) : Int32 := nI (e % 33) - nI 16
theorem mz_e_of {x y : Int32} (h1 : -16 ≤ x.toInt) (h2 : x.toInt ≤ 16) (h3 : -16 ≤ y.toInt) (h4 : y.toInt ≤ 16) : ∃ e, e < 1089 ∧ mz_ex e = x ∧ mz_ey e = y := by
  refine ⟨33 * (x.toInt + 16).toNat + (y.toInt + 16).toNat, by omega, mz_eq ?_, mz_eq ?_⟩
  · unfold mz_ex; rw [mz_sub_to (by omega) (by omega)]; omega
  · unfold mz_ey; rw [mz_sub_to (by omega) (by omega)]; omega
theorem mz_e_inj {e f : Nat} (he : e < 1089) (hf : f < 1089) (h1 : mz_ex e = mz_ex f) (h2 : mz_ey e = mz_ey f) : e = f := by
  have f1 := congrArg Int32.toInt h1
  have f2 := congrArg Int32.toInt h2
  unfold mz_ex at f1
  unfold mz_ey at f2
  rw [mz_sub_to (by omega) (by omega), mz_sub_to (by omega) (by omega)] at f1 f2
  omega
def mz_PR (i j : Nat) (x y : Int32) : Int32 := mz_s (fun e => mz_T i (mz_ex e) (mz_ey e) * mz_T j (x - mz_ex e) (y - mz_ey e)) 1089
theorem mz_pick {t a b : Nat} (ht : t < 4) (ha : a < 4) (hb : b < 4) (p1 p2 u v : Int32) :
    mz_s (fun e => mz_T (mz_ix t a b) (mz_ex e) (mz_ey e) * (if p1 = u - mz_ex e ∧ p2 = v - mz_ey e then (1 : Int32) else 0)) 1089 = mz_T (mz_ix t a b) (u - p1) (v - p2) := by
  by_cases z : mz_T (mz_ix t a b) (u - p1) (v - p2) = 0
  · rw [z]
    refine mz_s_0 (fun e _ => ?_)
    by_cases c : p1 = u - mz_ex e ∧ p2 = v - mz_ey e
    · rw [show mz_ex e = u - p1 by grind, show mz_ey e = v - p2 by grind, z, Int32.zero_mul]
    · rw [if_neg c, Int32.mul_zero]
  · obtain ⟨_, _, _, _, _, _, g1, g2, g3, g4⟩ := mz_F2 ht ha hb z
    obtain ⟨e, he, e1, e2⟩ := mz_e_of (x := u - p1) (y := v - p2) (by omega) (by omega) (by omega) (by omega)
    rw [mz_s_1 he]
    · rw [e1, e2, if_pos (by constructor <;> grind), Int32.mul_one]
    · intro f hf hn
      rw [if_neg, Int32.mul_zero]
      rintro ⟨z1, z2⟩
      exact hn (mz_e_inj hf he (by rw [e1]; grind) (by rw [e2]; grind))
/-- how often a table is in a product: by the condition on the second table -/
theorem mz_prod {t a b c d : Nat} (ht : t < 4) (ha : a < 4) (hb : b < 4) (hc : c < 4) (hd : d < 4) (u v : Int32) :
    mz_s (fun k => mz_sg k * mz_PR (mz_ix t a b) (mz_ix t c d) (u - mz_X t k 1 1) (v - mz_Y t k 1 1)) (2 * mz_h t)
      = mz_s (fun k => mz_sg k * mz_T (mz_ix t a b) (u - mz_X t k (nI c + 1) (nI d + 1)) (v - mz_Y t k (nI c + 1) (nI d + 1))) (2 * mz_h t) := by
  have h1 : ∀ k, k < 2 * mz_h t → mz_sg k * mz_PR (mz_ix t a b) (mz_ix t c d) (u - mz_X t k 1 1) (v - mz_Y t k 1 1)
      = mz_s (fun e => mz_T (mz_ix t a b) (mz_ex e) (mz_ey e) * (mz_sg k * mz_T (mz_ix t c d) (u - mz_ex e - mz_X t k 1 1) (v - mz_ey e - mz_Y t k 1 1))) 1089 := by
    intro k _
    unfold mz_PR
    rw [← mz_s_mul]
    refine mz_s_c (fun e _ => ?_)
    rw [show u - mz_X t k 1 1 - mz_ex e = u - mz_ex e - mz_X t k 1 1 by grind, show v - mz_Y t k 1 1 - mz_ey e = v - mz_ey e - mz_Y t k 1 1 by grind]
    grind
  rw [mz_s_c h1, mz_s_swap]
  have h2 : ∀ e, e < 1089 → mz_s (fun k => mz_T (mz_ix t a b) (mz_ex e) (mz_ey e) * (mz_sg k * mz_T (mz_ix t c d) (u - mz_ex e - mz_X t k 1 1) (v - mz_ey e - mz_Y t k 1 1))) (2 * mz_h t)
      = mz_s (fun k => mz_sg k * (mz_T (mz_ix t a b) (mz_ex e) (mz_ey e) * (if mz_X t k (nI c + 1) (nI d + 1) = u - mz_ex e ∧ mz_Y t k (nI c + 1) (nI d + 1) = v - mz_ey e then (1 : Int32) else 0))) (2 * mz_h t) := by
    intro e _
    rw [mz_s_mul, mz_F1 ht hc hd, mz_A, ← mz_s_mul]
    exact mz_s_c (fun k _ => by grind)
  rw [mz_s_c h2, mz_s_swap]
  refine mz_s_c (fun k _ => ?_)
  rw [mz_s_mul, mz_pick ht ha hb]
