/-! the reference: a whole table -/
theorem yw_tdiv (z : Int) : z.tdiv 3 = if 0 ≤ z then z / 3 else -((-z) / 3) := by
  by_cases c : 0 ≤ z
  · rw [if_pos c, Int.tdiv_eq_ediv_of_nonneg c]
  · rw [if_neg c, ← Int.tdiv_eq_ediv_of_nonneg (by omega), Int.neg_tdiv, Int.neg_neg]
theorem yw_d3 {z : Int} (h1 : -100000 ≤ z) (h2 : z ≤ 100000) : mz_i z / 3 = mz_i (z.tdiv 3) := by
  apply mz_eq
  have e := yw_tdiv z
  rw [Int32.toInt_div_of_ne_right _ _ (by decide), mz_to (by omega) (by omega), show (3 : Int32).toInt = 3 by decide, mz_to]
  · split at e <;> omega
  · split at e <;> omega
theorem yw_r3 {z : Int} (h1 : -100000 ≤ z) (h2 : z ≤ 100000) : (mz_i z - mz_i z / 3 * 3 = 0 ↔ 3 * (z.tdiv 3) = z) := by
  have e := yw_tdiv z
  rw [yw_d3 h1 h2, show (3 : Int32) = mz_i 3 by decide, show (0 : Int32) = mz_i 0 by decide, mz_mul, mz_sub, mz_inj]
  · constructor <;> intro h <;> omega
  · split at e <;> omega
  · split at e <;> omega
  · omega
  · omega
theorem yw_nv_T {t a b s : Nat} (ht : t < 4) (ha : a < 4) (hb : b < 4) {nu : Nat → Int32} {x y : Int32} (g : yw_in x y)
    (hJ : ∀ x' y', yw_in x' y' → 5 * x.toInt + 3 * y.toInt < 5 * x'.toInt + 3 * y'.toInt → yw_ga nu s x' y' = mz_T (mz_ix t a b) x' y') :
    yw_nv t a b nu s x y = mz_T (mz_ix t a b) x y := by
  have hh := mz_hh t ht
  unfold yw_nv
  rw [mz_tail (G := fun k => mz_sg k * mz_T (mz_ix t a b) (x + 1 - mz_X t k 1 1) (y + 1 - mz_Y t k 1 1)) (by omega) ?_, mz_F1 ht ha hb, (mz_X0 ht 1 1).1, (mz_X0 ht 1 1).2, show mz_sg 0 = 1 from rfl]
  · rw [show x + 1 - 1 = x by grind, show y + 1 - 1 = y by grind]; grind
  · intro k hk k0
    unfold yw_F
    refine congrArg (fun z => mz_sg k * z) ?_
    obtain ⟨q1, q2⟩ := mz_qi t ht 0 (by omega) 0 (by omega) k hk
    have q3 := mz_qi0 t ht k hk k0
    obtain ⟨b1, b2, b3, b4⟩ := mz_qb0 t ht k hk
    by_cases g' : yw_in (x + 1 - mz_X t k 1 1) (y + 1 - mz_Y t k 1 1)
    · refine hJ _ _ g' ?_
      obtain ⟨g1, g2, g3, g4⟩ := g
      obtain ⟨z, hz1, hz2⟩ : ∃ z : Int, x = mz_i z ∧ x.toInt = z := ⟨_, mz_of _, rfl⟩
      obtain ⟨w, hw1, hw2⟩ : ∃ z : Int, y = mz_i z ∧ y.toInt = z := ⟨_, mz_of _, rfl⟩
      rw [mz_X1 ht hk, mz_Y1 ht hk]
      rw [hz2] at g1 g2
      rw [hw2] at g3 g4
      rw [hz2, hw2, hz1, hw1, show (1 : Int32) = mz_i 1 by decide, mz_nat, mz_nat, mz_nat, mz_nat, mz_sub, mz_sub, mz_add, mz_add, mz_sub, mz_sub, mz_to (by omega) (by omega), mz_to (by omega) (by omega)]
      clear g' hJ
      generalize mz_q1 (mz_ix t 0 0) k = Q1 at *
      generalize mz_q2 (mz_ix t 0 0) k = Q2 at *
      generalize mz_ik t 0 0 k = I at *
      generalize mz_jk t 0 0 k = J at *
      match t, ht with
      | 0, _ => rw [show mz_K 0 = 0 from rfl] at q1; rw [show mz_P 0 = 0 from rfl] at q2; omega
      | 1, _ => rw [show mz_K 1 = 1 from rfl] at q1; rw [show mz_P 1 = 1 from rfl] at q2; omega
      | 2, _ => rw [show mz_K 2 = 1 from rfl] at q1; rw [show mz_P 2 = 2 from rfl] at q2; omega
      | 3, _ => rw [show mz_K 3 = 1 from rfl] at q1; rw [show mz_P 3 = 3 from rfl] at q2; omega
    · rw [yw_ga_out g']
      by_cases z : mz_T (mz_ix t a b) (x + 1 - mz_X t k 1 1) (y + 1 - mz_Y t k 1 1) = 0
      · exact z.symm
      · have := mz_Tx ht ha hb z
        exact absurd ⟨by omega, by omega, by omega, by omega⟩ g'
def yw_J (t a b s : Nat) (nu0 : Nat → Int32) (r q : Nat) (nu : Nat → Int32) : Prop :=
  (∀ x y, yw_in x y → (128 - (r : Int) < 5 * x.toInt + 3 * y.toInt ∨ (5 * x.toInt + 3 * y.toInt = 128 - (r : Int) ∧ x.toInt < (q : Int) - 16)) → yw_ga nu s x y = mz_T (mz_ix t a b) x y)
    ∧ (∀ c, (c < 1089 * s ∨ 1089 * s + 1089 ≤ c) → nu c = nu0 c)
theorem yw_J_skip {t a b s : Nat} {nu0 nu : Nat → Int32} {r q : Nat} (h : yw_J t a b s nu0 r q nu) (hn : ∀ y : Int, -16 ≤ y → y ≤ 16 → ¬ 5 * ((q : Int) - 16) + 3 * y = 128 - (r : Int)) : yw_J t a b s nu0 r (q + 1) nu := by
  refine ⟨fun x y g c => h.1 x y g ?_, h.2⟩
  have g' := g
  obtain ⟨g1, g2, g3, g4⟩ := g'
  rcases c with c | ⟨c1, c2⟩
  · exact Or.inl c
  · by_cases e : x.toInt = (q : Int) - 16
    · have := hn y.toInt g3 g4
      omega
    · right; omega
theorem yw_J_put {t a b s : Nat} {nu0 nu : Nat → Int32} {r q : Nat} {x y : Int32} (g : yw_in x y) (h : yw_J t a b s nu0 r q nu) (e1 : x.toInt = (q : Int) - 16) (e2 : 5 * x.toInt + 3 * y.toInt = 128 - (r : Int)) :
    yw_J t a b s nu0 r (q + 1) (upd nu (1089 * s + yw_cl x y) (mz_T (mz_ix t a b) x y)) := by
  refine ⟨fun x' y' g' c => ?_, fun c hc => ?_⟩
  · rw [yw_ga_u g]
    by_cases d : x' = x ∧ y' = y
    · rw [if_pos d, d.1, d.2]
    · rw [if_neg d]
      refine h.1 x' y' g' ?_
      rcases c with c | ⟨c1, c2⟩
      · exact Or.inl c
      · by_cases e : x'.toInt = (q : Int) - 16
        · exact absurd ⟨mz_eq (by omega), mz_eq (by omega)⟩ d
        · right; omega
  · have l := yw_cl_lt g
    rw [pk_un (by omega)]; exact h.2 c hc
section
variable {t : Nat} {gt fx fy : Int32} {hA hB nu pr sX sY tX tY : Nat → Int32}

variable {a b s0 : Nat} {nu0 : Nat → Int32}
theorem yw_125 {post : SY → Prop} {JJ : Int32 → (Nat → Int32) → (Nat → Int32) → (Nat → Int32) → (Nat → Int32) → (Nat → Int32) → (Nat → Int32) → (Nat → Int32) → (Nat → Int32) → Prop} {r : Nat} (ht : t < 4) (ha : a < 4) (hb : b < 4) (hs : s0 < 2) (hS : yw_Sh t sX sY) (hT : yw_Tp t a b tX tY) (hr : r < 257)
    (hJ : yw_J t a b s0 nu0 r 0 nu) (h : ∀ nu', yw_J t a b s0 nu0 (r + 1) 0 nu' → JJ (nI 128 - nI (r + 1)) hA hB nu' pr sX sY tX tY) :
    ∃ n, wY_make_125 post JJ (nI s0) (nI 128 - nI r) gt (mz_p t) (mz_q t) (nI (2 * mz_h t)) fx fy n (-16) hA hB nu pr sX sY tX tY := by
  have key := pk_loop (fun n q s => wY_make_125 post JJ (nI s0) (nI 128 - nI r) gt (mz_p t) (mz_q t) (nI (2 * mz_h t)) fx fy n (nI q - nI 16) hA hB s pr sX sY tX tY) (fun q s => yw_J t a b s0 nu0 r q s) 33 0 nu (by omega) hJ ?_ ?_
  · exact key
  · intro n s hs'
    refine br_t (by decide) (fun x2 e2 => ?_)
    rw [show x2 = nI 128 - nI (r + 1) by rw [e2, ← nI_1 r]; grind]
    refine h s ⟨fun x y g c => hs'.1 x y g ?_, hs'.2⟩
    obtain ⟨g1, g2, g3, g4⟩ := g
    omega
  · intro n q s hq hs' ih
    have eq : ∀ z : Int32, z = nI q - nI 16 + 1 → z = nI (q + 1) - nI 16 := by
      intro z hz; rw [hz, ← nI_1 q]; grind
    have exq : (nI q - nI 16).toInt = (q : Int) - 16 := mz_sub_to (by omega) (by omega)
    refine br_f (by rw [mz_lt, exq, yw_16.2]; omega) (fun x4 e4 => ⟨by decide, ?_⟩)
    have e4' : x4 = mz_i (128 - (r : Int) - 5 * ((q : Int) - 16)) := by
      rw [e4, mz_nat, mz_nat, mz_nat, mz_nat, show (5 : Int32) = mz_i 5 by decide, mz_sub, mz_sub, mz_mul, mz_sub]
      exact congrArg mz_i (by omega)
    clear e4
    subst e4'
    by_cases m : 3 * ((128 - (r : Int) - 5 * ((q : Int) - 16)).tdiv 3) = 128 - (r : Int) - 5 * ((q : Int) - 16)
    · refine br_t ((yw_r3 (by omega) (by omega)).mpr m) ?_
      rw [yw_d3 (by omega) (by omega)]
      generalize (128 - (r : Int) - 5 * ((q : Int) - 16)).tdiv 3 = w at m
      rw [← m, mz_lt, mz_lt, mz_to (by omega) (by omega), show (-48 : Int32).toInt = -48 by decide, show (48 : Int32).toInt = 48 by decide]
      refine br_c (fun c x3 e3 => ?_) (fun c => br_c (fun c2 x3 e3 => ?_) (fun c2 => ⟨by decide, ?_⟩))
      · rw [eq x3 e3]
        exact ih s (yw_J_skip hs' (fun y h1 h2 h3 => by omega))
      · rw [eq x3 e3]
        exact ih s (yw_J_skip hs' (fun y h1 h2 h3 => by omega))
      · have ew : (mz_i w).toInt = w := mz_to (by omega) (by omega)
        have g : yw_in (nI q - nI 16) (mz_i w) := ⟨by omega, by omega, by omega, by omega⟩
        refine yw_solve ht ha hb hs hS hT ⟨by decide, ?_⟩
        rw [yw_cl_eq g, yw_nv_T ht ha hb g (fun x' y' g' hl => hs'.1 x' y' g' (Or.inl (by omega)))]
        have l := yw_cl_lt g
        rw [nI_clamp (by omega)]
        refine ⟨vp_in_nI (by omega) (by omega), fun ar ear x3 e3 => ?_⟩
        rw [eq x3 e3, ear]
        exact ih _ (yw_J_put g hs' exq (by omega))
    · refine br_f (fun z => m ((yw_r3 (by omega) (by omega)).mp z)) (fun x3 e3 => ?_)
      rw [eq x3 e3]
      refine ih s (yw_J_skip hs' (fun y h1 h2 h3 => ?_))
      have e := yw_tdiv (128 - (r : Int) - 5 * ((q : Int) - 16))
      split at e <;> omega
theorem yw_116 {post : SY → Prop} (ht : t < 4) (ha : a < 4) (hb : b < 4) (hs : s0 < 2) (hS : yw_Sh t sX sY) (hT : yw_Tp t a b tX tY)
    (hJ : yw_J t a b s0 nu0 0 0 nu) (h : ∀ nu', (∀ x y, yw_ga nu' s0 x y = mz_T (mz_ix t a b) x y) → (∀ c, (c < 1089 * s0 ∨ 1089 * s0 + 1089 ≤ c) → nu' c = nu0 c) → post (gt, (mz_p t), (mz_q t), (nI (2 * mz_h t)), fx, fy, hA, hB, nu', pr, sX, sY, tX, tY)) :
    ∃ n, wY_make_116 post (nI s0) gt (mz_p t) (mz_q t) (nI (2 * mz_h t)) fx fy n 128 hA hB nu pr sX sY tX tY := by
  have key := pk_loop (fun n r s => wY_make_116 post (nI s0) gt (mz_p t) (mz_q t) (nI (2 * mz_h t)) fx fy n (nI 128 - nI r) hA hB s pr sX sY tX tY) (fun r s => yw_J t a b s0 nu0 r 0 s) 257 0 nu (by omega) hJ ?_ ?_
  · exact key
  · intro n s hs'
    refine br_t (by decide) (h s (fun x y => ?_) hs'.2)
    by_cases g : yw_in x y
    · refine hs'.1 x y g ?_
      obtain ⟨g1, g2, g3, g4⟩ := g
      left; omega
    · rw [yw_ga_out g]
      by_cases z : mz_T (mz_ix t a b) x y = 0
      · exact z.symm
      · have := mz_Tx ht ha hb z
        exact absurd ⟨by omega, by omega, by omega, by omega⟩ g
  · intro n r s hr hs' ih
    refine br_f ?_ (yw_125 ht ha hb hs hS hT hr hs' (fun nu' h' => ih nu' h'))
    rw [mz_lt, mz_sub_to (by omega) (by omega), show (-128 : Int32).toInt = -128 by decide]; omega
theorem yw_86 {post : SY → Prop} (ht : t < 4) (ha : a < 4) (hb : b < 4) (hs : s0 < 2) (hS : yw_Sh t sX sY) (hT : yw_Tp t a b tX tY)
    (h : ∀ nu', (∀ x y, yw_ga nu' s0 x y = mz_T (mz_ix t a b) x y) → (∀ c, (c < 1089 * s0 ∨ 1089 * s0 + 1089 ≤ c) → nu' c = nu c) → post (gt, (mz_p t), (mz_q t), (nI (2 * mz_h t)), fx, fy, hA, hB, nu', pr, sX, sY, tX, tY)) :
    ∃ n, wY_make_86 post (nI s0) gt (mz_p t) (mz_q t) (nI (2 * mz_h t)) fx fy n 0 hA hB nu pr sX sY tX tY := by
  refine pk_loop (fun n c s => wY_make_86 post (nI s0) gt (mz_p t) (mz_q t) (nI (2 * mz_h t)) fx fy n (nI c) hA hB s pr sX sY tX tY) (fun c s => ∀ c, (c < 1089 * s0 ∨ 1089 * s0 + 1089 ≤ c) → s c = nu c) 1089 0 nu (by omega) (fun c _ => rfl) ?_ ?_
  · intro n s hs'
    refine br_t (nI_le (a := 1089) (b := 1089) (by decide) (by decide)) (yw_116 (nu0 := nu) ht ha hb hs hS hT ⟨fun x y g c => ?_, hs'⟩ h)
    obtain ⟨g1, g2, g3, g4⟩ := g
    omega
  · intro n c s hc hs' ih
    have ei : 1089 * nI s0 + nI c = nI (1089 * s0 + c) := by rw [← nI_add, ← pk_mul]; rfl
    refine br_f (nI_ge (b := 1089) hc (by decide)) ?_
    rw [ei, nI_clamp (by omega)]
    refine ⟨vp_in_nI (by omega) (by omega), fun ar ear x2 e2 => ?_⟩
    rw [e2, nI_1]
    refine ih ar (fun c' hc' => ?_)
    rw [ear, pk_un (by omega)]; exact hs' c' hc'
theorem yw_make {post : SY → Prop} (ht : t < 4) (ha : a < 4) (hb : b < 4) (hs : s0 < 2) (hhA : hA s0 = nI a) (hhB : hB s0 = nI b)
    (h : ∀ fx' fy' nu' sX' sY' tX' tY', yw_Sh t sX' sY' → (∀ x y, yw_ga nu' s0 x y = mz_T (mz_ix t a b) x y) → (∀ c, (c < 1089 * s0 ∨ 1089 * s0 + 1089 ≤ c) → nu' c = nu c) → post (gt, (mz_p t), (mz_q t), (nI (2 * mz_h t)), fx', fy', hA, hB, nu', pr, sX', sY', tX', tY')) :
    wpY_make post (gt, (mz_p t), (mz_q t), (nI (2 * mz_h t)), fx, fy, hA, hB, nu, pr, sX, sY, tX, tY) (nI s0) := by
  have h12 := xw_h12 ht
  have es : (nI s0).toNatClampNeg = s0 := nI_clamp (by omega)
  unfold wpY_make
  dsimp only
  refine pk_loop (fun n k (s : Int32 × Int32 × (Nat → Int32) × (Nat → Int32) × (Nat → Int32) × (Nat → Int32)) => wY_make_2 post (nI s0) n (nI k) gt (mz_p t) (mz_q t) (nI (2 * mz_h t)) s.1 s.2.1 hA hB nu pr s.2.2.1 s.2.2.2.1 s.2.2.2.2.1 s.2.2.2.2.2)
    (fun k s => ∀ l, l < k → (s.2.2.1 l = mz_X t (mz_sw t l) 1 1 ∧ s.2.2.2.1 l = mz_Y t (mz_sw t l) 1 1) ∧ (s.2.2.2.2.1 l = mz_X t (mz_sw t l) (nI a + 1) (nI b + 1) ∧ s.2.2.2.2.2 l = mz_Y t (mz_sw t l) (nI a + 1) (nI b + 1))) (2 * mz_h t) 0 (fx, fy, sX, sY, tX, tY) (by omega) (fun l hl => by omega) ?_ ?_
  · rintro n ⟨s1, s2, s3, s4, s5, s6⟩ hs'
    dsimp only at hs' ⊢
    exact br_t (nI_le (Nat.le_refl _) (by omega)) (yw_86 ht ha hb hs (fun k hk => (hs' k hk).1) (fun k hk => (hs' k hk).2) (fun nu' h1 h2 => h s1 s2 nu' s3 s4 s5 s6 (fun k hk => (hs' k hk).1) h1 h2))
  · rintro n i ⟨s1, s2, s3, s4, s5, s6⟩ hi hs' ih
    dsimp only at hs' ⊢
    have hv : vp_in (nI i) 12 := vp_in_nI (by omega) (by omega)
    have h2 : vp_in (nI s0) 2 := vp_in_nI hs (by decide)
    refine br_f (nI_ge hi (by omega)) (yw_move ht hi ?_)
    refine ⟨hv, fun A1 E1 => ⟨hv, fun A2 E2 => ⟨h2, h2, ?_⟩⟩⟩
    rw [es, hhA, hhB]
    refine yw_move ht hi ?_
    refine ⟨hv, fun A3 E3 => ⟨hv, fun A4 E4 x2 e2 => ?_⟩⟩
    rw [nI_clamp (by omega)] at E1 E2 E3 E4
    rw [e2, nI_1]
    refine ih (_, _, A1, A2, A3, A4) (fun l hl => ?_)
    dsimp only
    rw [E1, E2, E3, E4]
    by_cases e : l = i
    · rw [e, pk_us, pk_us, pk_us, pk_us]; exact ⟨⟨rfl, rfl⟩, ⟨rfl, rfl⟩⟩
    · rw [pk_un e, pk_un e, pk_un e, pk_un e]; exact hs' l (by omega)
end
