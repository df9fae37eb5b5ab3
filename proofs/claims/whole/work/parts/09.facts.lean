/-! how often a table is in the product, as the component sums it -/
def mz_tp (i t : Nat) (x y u v : Int32) : Int32 := mz_s (fun k => mz_sg k * mz_T i (u - mz_X t k (x + 1) (y + 1)) (v - mz_Y t k (x + 1) (y + 1))) (2 * mz_h t)
theorem mz_tp_0 {t a b c' d' : Nat} (ht : t < 4) (ha : a < 4) (hb : b < 4) (hc' : c' < 4) (hd' : d' < 4) {c d : Nat} (hc : c ≤ 40) (hd : d ≤ 40) (h : 9 < c ∨ 15 < d) :
    mz_tp (mz_ix t a b) t (nI c') (nI d') (nI c + 1) (nI d + 1) = 0 := by
  refine mz_s_0 (fun k hk => ?_)
  by_cases z : mz_T (mz_ix t a b) (nI c + 1 - mz_X t k (nI c' + 1) (nI d' + 1)) (nI d + 1 - mz_Y t k (nI c' + 1) (nI d' + 1)) = 0
  · rw [z, Int32.mul_zero]
  · exfalso
    obtain ⟨i, j, _, _, g1, g2, _, _, _, _⟩ := mz_F2 ht ha hb z
    obtain ⟨q1, q2⟩ := mz_qi t ht c' hc' d' hd' k hk
    obtain ⟨b1, b2⟩ := mz_qb t ht c' hc' d' hd' k hk
    rw [mz_qX t ht c' hc' d' hd' k hk] at g1
    rw [mz_qY t ht c' hc' d' hd' k hk] at g2
    have e1 : nI c + 1 - (nI (mz_q1 (mz_ix t c' d') k) - nI 12) = nI (c + 13) - nI (mz_q1 (mz_ix t c' d') k) := by
      rw [← nI_add, show nI 13 = 1 + nI 12 by decide]; grind
    have e2 : nI d + 1 - (nI (mz_q2 (mz_ix t c' d') k) - nI 20) = nI (d + 21) - nI (mz_q2 (mz_ix t c' d') k) := by
      rw [← nI_add, show nI 21 = 1 + nI 20 by decide]; grind
    rw [e1, mz_sub_to (by omega) (by omega)] at g1
    rw [e2, mz_sub_to (by omega) (by omega)] at g2
    generalize mz_ik t c' d' k = I at q1 q2
    generalize mz_jk t c' d' k = J at q1 q2
    generalize mz_q1 (mz_ix t c' d') k = Q1 at *
    generalize mz_q2 (mz_ix t c' d') k = Q2 at *
    clear e1 e2 z hk
    match t, ht with
    | 0, _ => rw [show mz_K 0 = 0 from rfl] at g1 q1; rw [show mz_P 0 = 0 from rfl] at g2 q2; omega
    | 1, _ => rw [show mz_K 1 = 1 from rfl] at g1 q1; rw [show mz_P 1 = 1 from rfl] at g2 q2; omega
    | 2, _ => rw [show mz_K 2 = 1 from rfl] at g1 q1; rw [show mz_P 2 = 2 from rfl] at g2 q2; omega
    | 3, _ => rw [show mz_K 3 = 1 from rfl] at g1 q1; rw [show mz_P 3 = 3 from rfl] at g2 q2; omega
theorem mz_nnx {h : Nat} {f g : Nat → Nat} (hh : h ≤ 6) (hf : ∀ j, f j < 256) (hg : mz_ns h g ≤ mz_ns h f) : ∃ n : Nat, n < 2000 ∧ mz_s (fun j => nI (f j)) h - mz_s (fun j => nI (g j)) h = nI n :=
  ⟨mz_ns h f - mz_ns h g, by have := mz_ns_le (n := h) (B := 255) (f := f) (fun i _ => by have := hf i; omega); omega, by rw [← mz_ns_s, ← mz_ns_s, pk_sub hg]⟩
theorem mz_nn {t a b c' d' : Nat} (ht : t < 4) (ha : a < 4) (hb : b < 4) (hc' : c' < 4) (hd' : d' < 4) {c d : Nat} (hc : c ≤ 40) (hd : d ≤ 40) :
    ∃ n : Nat, n < 2000 ∧ mz_tp (mz_ix t a b) t (nI c') (nI d') (nI c + 1) (nI d + 1) = nI n := by
  by_cases h : 9 < c ∨ 15 < d
  · exact ⟨0, by decide, mz_tp_0 ht ha hb hc' hd' hc hd h⟩
  · have cN := mz_aN (mz_ix t a b) (mz_ix_lt ht ha hb)
    rw [mz_ix_t ha hb] at cN
    have c2 := Nat.le_of_ble_eq_true (mz_al_of (mz_al_of (mz_al_of cN (4 * c' + d') (by omega)) c (by omega)) d (by omega))
    have e0 : Nat.add (Nat.mul 16 t) (4 * c' + d') = mz_ix t c' d' := by
      show 16 * t + (4 * c' + d') = 16 * t + 4 * c' + d'; omega
    rw [e0] at c2
    have key : ∀ k, k < 2 * mz_h t → mz_T (mz_ix t a b) (nI c + 1 - mz_X t k (nI c' + 1) (nI d' + 1)) (nI d + 1 - mz_Y t k (nI c' + 1) (nI d' + 1))
        = nI (mz_dg (mz_tb (mz_ix t a b)) (Nat.sub (Nat.add (Nat.add (Nat.mul 64 c) d) 1838) (mz_ob (mz_Q (mz_ix t c' d')) k))) := by
      intro k hk
      obtain ⟨b1, b2⟩ := mz_qb t ht c' hc' d' hd' k hk
      rw [mz_qX t ht c' hc' d' hd' k hk, mz_qY t ht c' hc' d' hd' k hk]
      have e1 : nI c + 1 - (nI (mz_q1 (mz_ix t c' d') k) - nI 12) = nI (c + 28 - mz_q1 (mz_ix t c' d') k) - nI 15 := by
        rw [← pk_sub (by omega), ← nI_add, show nI 28 = 1 + nI 12 + nI 15 by decide]; grind
      have e2 : nI d + 1 - (nI (mz_q2 (mz_ix t c' d') k) - nI 20) = nI (d + 46 - mz_q2 (mz_ix t c' d') k) - nI 25 := by
        rw [← pk_sub (by omega), ← nI_add, show nI 46 = 1 + nI 20 + nI 25 by decide]; grind
      rw [e1, e2, mz_T_at _ (by omega) (by omega)]
      refine congrArg (fun c => nI (mz_dg (mz_tb (mz_ix t a b)) c)) ?_
      show _ = (64 * c + d + 1838) - mz_ob (mz_Q (mz_ix t c' d')) k
      have e : mz_ob (mz_Q (mz_ix t c' d')) k = 64 * mz_q1 (mz_ix t c' d') k + mz_q2 (mz_ix t c' d') k := by unfold mz_q1 mz_q2; omega
      omega
    obtain ⟨hh1, hh2⟩ := mz_hh t ht
    unfold mz_tp
    rw [mz_pair (fun k => mz_T (mz_ix t a b) (nI c + 1 - mz_X t k (nI c' + 1) (nI d' + 1)) (nI d + 1 - mz_Y t k (nI c' + 1) (nI d' + 1))),
      mz_s_c (fun j hj => key (2 * j) (by omega)), mz_s_c (fun j hj => key (2 * j + 1) (by omega))]
    exact mz_nnx hh2 (fun _ => mz_dg_lt _ _) c2
/-! the order of the reference's motions -/
def mz_sw (t k : Nat) : Nat := if k ≤ mz_h t then k else 3 * mz_h t - k
theorem mz_sw_lt {t k : Nat} (hk : k < 2 * mz_h t) : mz_sw t k < 2 * mz_h t := by unfold mz_sw; split <;> omega
theorem mz_sw_inj {t k l : Nat} (hk : k < 2 * mz_h t) (hl : l < 2 * mz_h t) (h : mz_sw t k = mz_sw t l) : k = l := by
  unfold mz_sw at h; split at h <;> split at h <;> omega
theorem mz_perm {t : Nat} (ht : t < 4) (F : Nat → Int32) : mz_s (fun k => F (mz_sw t k)) (2 * mz_h t) = mz_s F (2 * mz_h t) := by
  match t, ht with
  | 0, _ => show 0 + F 0 + F 1 + F 2 + F 3 = 0 + F 0 + F 1 + F 2 + F 3; rfl
  | 1, _ => show 0 + F 0 + F 1 + F 2 + F 3 + F 5 + F 4 = 0 + F 0 + F 1 + F 2 + F 3 + F 4 + F 5; grind
  | 2, _ => show 0 + F 0 + F 1 + F 2 + F 3 + F 4 + F 7 + F 6 + F 5 = 0 + F 0 + F 1 + F 2 + F 3 + F 4 + F 5 + F 6 + F 7; grind
  | 3, _ => show 0 + F 0 + F 1 + F 2 + F 3 + F 4 + F 5 + F 6 + F 11 + F 10 + F 9 + F 8 + F 7 = 0 + F 0 + F 1 + F 2 + F 3 + F 4 + F 5 + F 6 + F 7 + F 8 + F 9 + F 10 + F 11; grind
/-- no two motions take (a + 1, b + 1) to the same weight -/
theorem mz_dist {t a b : Nat} (ht : t < 4) (ha : a < 4) (hb : b < 4) {k l : Nat} (hk : k < 2 * mz_h t) (hl : l < 2 * mz_h t)
    (h1 : mz_X t k (nI a + 1) (nI b + 1) = mz_X t l (nI a + 1) (nI b + 1)) (h2 : mz_Y t k (nI a + 1) (nI b + 1) = mz_Y t l (nI a + 1) (nI b + 1)) : k = l := by
  obtain ⟨b1, b2⟩ := mz_qb t ht a ha b hb k hk
  obtain ⟨b3, b4⟩ := mz_qb t ht a ha b hb l hl
  rw [mz_qX t ht a ha b hb k hk, mz_qX t ht a ha b hb l hl] at h1
  rw [mz_qY t ht a ha b hb k hk, mz_qY t ht a ha b hb l hl] at h2
  have f1 := congrArg Int32.toInt h1
  have f2 := congrArg Int32.toInt h2
  rw [mz_sub_to (by omega) (by omega), mz_sub_to (by omega) (by omega)] at f1 f2
  have e1 : mz_ob (mz_Q (mz_ix t a b)) k = 64 * mz_q1 (mz_ix t a b) k + mz_q2 (mz_ix t a b) k := by unfold mz_q1 mz_q2; omega
  have e2 : mz_ob (mz_Q (mz_ix t a b)) l = 64 * mz_q1 (mz_ix t a b) l + mz_q2 (mz_ix t a b) l := by unfold mz_q1 mz_q2; omega
  rcases Nat.lt_trichotomy k l with c | c | c
  · exact absurd (by omega) (mz_qd t ht a ha b hb l hl k c)
  · exact c
  · exact absurd (by omega) (mz_qd t ht a ha b hb k hk l c)
/-! sums over the two grids -/
theorem mz_win {g : Int32 → Int32} (h : ∀ x, g x ≠ 0 → -16 ≤ x.toInt ∧ x.toInt ≤ 16) : mz_s (fun r => g (nI r - nI 20)) 41 = mz_s (fun r => g (nI r - nI 16)) 33 := by
  have z : ∀ r, r < 41 → (r < 4 ∨ 36 < r) → g (nI r - nI 20) = 0 := by
    intro r hr hc
    by_cases c : g (nI r - nI 20) = 0
    · exact c
    · have := h _ c
      rw [mz_sub_to (by omega) (by omega)] at this
      omega
  rw [show 41 = 4 + 37 from rfl, mz_s_cat, mz_s_0 (fun i hi => z i (by omega) (by omega)), show 37 = 33 + 4 from rfl, mz_s_cat, mz_s_0 (f := fun i => g (nI (4 + (33 + i)) - nI 20)) (fun i hi => z _ (by omega) (by omega))]
  rw [mz_s_c (g := fun r => g (nI r - nI 16)) (fun i _ => congrArg g (by rw [← nI_add, show nI 20 = nI 4 + nI 16 by decide]; grind))]
  grind
theorem mz_s33 (f : Nat → Nat → Int32) : mz_s (fun c => f (c / 33) (c % 33)) 1089 = mz_s (fun r => mz_s (fun s => f r s) 33) 33 := by
  rw [show 1089 = 33 * 33 from rfl, mz_s_dbl]
  exact mz_s_c (fun r _ => mz_s_c (fun s hs => by rw [show (33 * r + s) / 33 = r by omega, show (33 * r + s) % 33 = s by omega]))
theorem mz_s41 (f : Nat → Nat → Int32) : mz_s (fun c => f (c / 41) (c % 41)) 1681 = mz_s (fun r => mz_s (fun s => f r s) 41) 41 := by
  rw [show 1681 = 41 * 41 from rfl, mz_s_dbl]
  exact mz_s_c (fun r _ => mz_s_c (fun s hs => by rw [show (41 * r + s) / 41 = r by omega, show (41 * r + s) % 41 = s by omega]))
theorem mz_Tx {t a b : Nat} (ht : t < 4) (ha : a < 4) (hb : b < 4) {x y : Int32} (h : mz_T (mz_ix t a b) x y ≠ 0) : (-16 ≤ x.toInt ∧ x.toInt ≤ 16) ∧ (-16 ≤ y.toInt ∧ y.toInt ≤ 16) := by
  obtain ⟨_, _, _, _, _, _, g1, g2, g3, g4⟩ := mz_F2 ht ha hb h
  omega
theorem mz_sumT {t a b : Nat} (ht : t < 4) (ha : a < 4) (hb : b < 4) :
    mz_s (fun c => mz_T (mz_ix t a b) (nI (c / 41) - nI 20) (nI (c % 41) - nI 20)) 1681 = mz_s (fun c => mz_T (mz_ix t a b) (mz_ex c) (mz_ey c)) 1089 := by
  rw [mz_s41 (fun r s => mz_T (mz_ix t a b) (nI r - nI 20) (nI s - nI 20))]
  rw [show mz_s (fun c => mz_T (mz_ix t a b) (mz_ex c) (mz_ey c)) 1089 = _ from mz_s33 (fun r s => mz_T (mz_ix t a b) (nI r - nI 16) (nI s - nI 16))]
  rw [mz_win (g := fun x => mz_s (fun s => mz_T (mz_ix t a b) x (nI s - nI 20)) 41)]
  · refine mz_s_c (fun r _ => ?_)
    exact mz_win (g := fun y => mz_T (mz_ix t a b) (nI r - nI 16) y) (fun y hy => (mz_Tx ht ha hb hy).2)
  · intro x hx
    by_cases c : -16 ≤ x.toInt ∧ x.toInt ≤ 16
    · exact c
    · refine absurd (mz_s_0 (fun s _ => ?_)) hx
      by_cases z : mz_T (mz_ix t a b) x (nI s - nI 20) = 0
      · exact z
      · exact absurd (mz_Tx ht ha hb z).1 c
theorem mz_row {t a b : Nat} (ht : t < 4) (ha : a < 4) (hb : b < 4) (k : Int32) :
    mz_s (fun c => if mz_ex c = k then mz_T (mz_ix t a b) (mz_ex c) (mz_ey c) else 0) 1089 = mz_s (fun s => mz_T (mz_ix t a b) k (nI s - nI 20)) 41 := by
  rw [mz_win (g := fun y => mz_T (mz_ix t a b) k y) (fun y hy => (mz_Tx ht ha hb hy).2)]
  rw [show mz_s (fun c => if mz_ex c = k then mz_T (mz_ix t a b) (mz_ex c) (mz_ey c) else 0) 1089 = _ from mz_s33 (fun r s => if nI r - nI 16 = k then mz_T (mz_ix t a b) (nI r - nI 16) (nI s - nI 16) else 0)]
  by_cases c : -16 ≤ k.toInt ∧ k.toInt ≤ 16
  · have e : nI (k.toInt + 16).toNat - nI 16 = k := mz_eq (by rw [mz_sub_to (by omega) (by omega)]; omega)
    rw [mz_s_1 (j := (k.toInt + 16).toNat) (by omega)]
    · exact mz_s_c (fun s _ => by rw [if_pos e, e])
    · intro i hi hn
      refine mz_s_0 (fun s _ => if_neg ?_)
      intro z
      have f := congrArg Int32.toInt z
      rw [mz_sub_to (by omega) (by omega)] at f
      omega
  · have z : ∀ y, mz_T (mz_ix t a b) k y = 0 := by
      intro y
      by_cases z : mz_T (mz_ix t a b) k y = 0
      · exact z
      · exact absurd (mz_Tx ht ha hb z).1 c
    rw [mz_s_0 (fun r _ => mz_s_0 (fun s _ => ?_)), mz_s_0 (fun s _ => z _)]
    by_cases c2 : nI r - nI 16 = k
    · rw [if_pos c2, c2, z]
    · rw [if_neg c2]
theorem mz_col {t a b : Nat} (ht : t < 4) (ha : a < 4) (hb : b < 4) (k : Int32) :
    mz_s (fun c => if mz_ey c = k then mz_T (mz_ix t a b) (mz_ex c) (mz_ey c) else 0) 1089 = mz_s (fun s => mz_T (mz_ix t a b) (nI s - nI 20) k) 41 := by
  rw [mz_win (g := fun x => mz_T (mz_ix t a b) x k) (fun y hy => (mz_Tx ht ha hb hy).1)]
  rw [show mz_s (fun c => if mz_ey c = k then mz_T (mz_ix t a b) (mz_ex c) (mz_ey c) else 0) 1089 = _ from mz_s33 (fun r s => if nI s - nI 16 = k then mz_T (mz_ix t a b) (nI r - nI 16) (nI s - nI 16) else 0)]
  refine mz_s_c (fun r _ => ?_)
  by_cases c : -16 ≤ k.toInt ∧ k.toInt ≤ 16
  · have e : nI (k.toInt + 16).toNat - nI 16 = k := mz_eq (by rw [mz_sub_to (by omega) (by omega)]; omega)
    rw [mz_s_1 (j := (k.toInt + 16).toNat) (by omega)]
    · rw [if_pos e, e]
    · intro i hi hn
      refine if_neg ?_
      intro z
      have f := congrArg Int32.toInt z
      rw [mz_sub_to (by omega) (by omega)] at f
      omega
  · have z : ∀ x, mz_T (mz_ix t a b) x k = 0 := by
      intro x
      by_cases z : mz_T (mz_ix t a b) x k = 0
      · exact z
      · exact absurd (mz_Tx ht ha hb z).2 c
    rw [z, mz_s_0 (fun s _ => ?_)]
    by_cases c2 : nI s - nI 16 = k
    · rw [if_pos c2, c2, z]
    · rw [if_neg c2]
