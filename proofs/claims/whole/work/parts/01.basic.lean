theorem pk_us {f : Nat → Int32} {k : Nat} {x : Int32} : upd f k x k = x := if_pos rfl
theorem pk_un {f : Nat → Int32} {k j : Nat} {x : Int32} (h : j ≠ k) : upd f k x j = f j := if_neg h
theorem pk_sub {a b : Nat} (h : b ≤ a) : nI a - nI b = nI (a - b) := by
  obtain ⟨c, rfl⟩ : ∃ c, a = c + b := ⟨a - b, by omega⟩
  rw [← nI_add, Int32.add_sub_cancel, Nat.add_sub_cancel]
theorem pk_mul (a b : Nat) : nI a * nI b = nI (a * b) := (Int32.ofNat_mul a b).symm
theorem pk_div {a d : Nat} (ha : a < 2 ^ 31) (h0 : 0 < d) (hd : d < 2 ^ 31) : nI a / nI d = nI (a / d) := by
  apply Int32.toInt_inj.mp
  rw [lg_idiv_nonneg (by rw [nI_toInt ha]; omega) (by rw [nI_toInt hd]; omega), nI_toInt ha, nI_toInt hd, nI_toInt (Nat.lt_of_le_of_lt (Nat.div_le_self a d) ha)]
  first | rfl | exact (Int.natCast_ediv _ _).symm
theorem pk_rem {a d : Nat} (ha : a < 2 ^ 31) (h0 : 0 < d) (hd : d < 2 ^ 31) : nI a - nI a / nI d * nI d = nI (a % d) := by
  rw [pk_div ha h0 hd, pk_mul, pk_sub (Nat.div_mul_le_self a d)]
  exact congrArg nI (by have := Nat.div_add_mod' a d; omega)
theorem pk_le {x y : Int32} {A B : Prop} (a b : Nat) (f : a ≤ b → A) (g : b < a → B) (hx : x = nI a := by rfl) (hy : y = nI b := by rfl) (ha : a < 2 ^ 31 := by omega) (hb : b < 2 ^ 31 := by omega) : (x ≤ y → A) ∧ (¬ x ≤ y → B) := by
  subst hx hy
  rw [nI_leI ha hb]
  exact ⟨f, fun z => g (by omega)⟩
theorem pk_lt {x y : Int32} {A B : Prop} (a b : Nat) (f : a < b → A) (g : b ≤ a → B) (hx : x = nI a := by rfl) (hy : y = nI b := by rfl) (ha : a < 2 ^ 31 := by omega) (hb : b < 2 ^ 31 := by omega) : (x < y → A) ∧ (¬ x < y → B) := by
  subst hx hy
  rw [nI_ltI ha hb]
  exact ⟨f, fun z => g (by omega)⟩
theorem pk_eq {x y : Int32} {A B : Prop} (a b : Nat) (f : a = b → A) (g : a ≠ b → B) (hx : x = nI a := by rfl) (hy : y = nI b := by rfl) (ha : a < 2 ^ 31 := by omega) (hb : b < 2 ^ 31 := by omega) : (x = y → A) ∧ (¬ x = y → B) := by
  subst hx hy
  rw [nI_eq ha hb]
  exact ⟨f, g⟩
theorem pk_in {x : Int32} (n N : Nat) (h : n < N) (hx : x = nI n := by rfl) (hN : N < 2 ^ 31 := by omega) : vp_in x N := by
  subst hx
  exact vp_in_nI h hN
theorem pk_cl {x : Int32} (n : Nat) (hx : x = nI n := by rfl) (h : n < 2 ^ 31 := by omega) : x.toNatClampNeg = n := by
  subst hx
  exact nI_clamp h
theorem pk_loop {σ : Type} (W : Nat → Nat → σ → Prop) (I : Nat → σ → Prop) (e i0 : Nat) (s : σ) (hi : i0 ≤ e) (h0 : I i0 s) (hx : ∀ n s, I e s → W (n + 1) e s)
    (hs : ∀ n i s, i < e → I i s → (∀ s', I (i + 1) s' → W n (i + 1) s') → W (n + 1) i s) : ∃ n, W n i0 s :=
  ⟨e + 1, loop_i W I e hx hs (e + 1) i0 s hi (by omega) h0⟩
/-! whole numbers as ints -/
def mz_i (z : Int) : Int32 := Int32.ofInt z
theorem mz_add (a b : Int) : mz_i a + mz_i b = mz_i (a + b) := (Int32.ofInt_add a b).symm
theorem mz_mul (a b : Int) : mz_i a * mz_i b = mz_i (a * b) := (Int32.ofInt_mul a b).symm
theorem mz_neg (a : Int) : -mz_i a = mz_i (-a) := (Int32.ofInt_neg a).symm
theorem mz_sub (a b : Int) : mz_i a - mz_i b = mz_i (a - b) := (Int32.ofInt_sub a b).symm
theorem mz_of (x : Int32) : x = mz_i x.toInt := (Int32.ofInt_toInt x).symm
theorem mz_to {z : Int} (h1 : -2147483648 ≤ z) (h2 : z ≤ 2147483647) : (mz_i z).toInt = z :=
  Int32.toInt_ofInt_of_le (by omega) (by omega)
theorem mz_nat (n : Nat) : nI n = mz_i (n : Int) := (Int32.ofInt_eq_ofNat).symm
theorem mz_inj {a b : Int} (h1 : -2147483648 ≤ a) (h2 : a ≤ 2147483647) (h3 : -2147483648 ≤ b) (h4 : b ≤ 2147483647) : mz_i a = mz_i b ↔ a = b :=
  ⟨fun h => by rw [← mz_to h1 h2, h, mz_to h3 h4], fun h => by rw [h]⟩
theorem mz_eq {x y : Int32} (h : x.toInt = y.toInt) : x = y := Int32.toInt_inj.mp h
theorem mz_lt {x y : Int32} : x < y ↔ x.toInt < y.toInt := Int32.lt_iff_toInt_lt
theorem mz_le {x y : Int32} : x ≤ y ↔ x.toInt ≤ y.toInt := Int32.le_iff_toInt_le
theorem mz_nI_to {n : Nat} (h : n < 2147483648) : (nI n).toInt = (n : Int) := nI_toInt (by omega)
/-- a difference of two small numbers -/
theorem mz_sub_to {X : Nat} {c : Nat} (hX : X < 1000000) (hc : c < 1000000) : (nI X - nI c).toInt = (X : Int) - (c : Int) := by
  rw [mz_nat, mz_nat, mz_sub, mz_to (by omega) (by omega)]
/-! sums -/
def mz_s (f : Nat → Int32) : Nat → Int32
  | 0 => 0
  | n + 1 => mz_s f n + f n
theorem mz_s_c {f g : Nat → Int32} {n : Nat} (h : ∀ i, i < n → f i = g i) : mz_s f n = mz_s g n := by
  induction n with
  | zero => rfl
  | succ n ih => rw [mz_s, mz_s, ih (fun i hi => h i (by omega)), h n (by omega)]
theorem mz_s_add (f g : Nat → Int32) (n : Nat) : mz_s (fun i => f i + g i) n = mz_s f n + mz_s g n := by
  induction n with
  | zero => rfl
  | succ n ih => rw [mz_s, mz_s, mz_s, ih]; grind
theorem mz_s_sub (f g : Nat → Int32) (n : Nat) : mz_s (fun i => f i - g i) n = mz_s f n - mz_s g n := by
  induction n with
  | zero => rw [mz_s, mz_s, mz_s]; grind
  | succ n ih => rw [mz_s, mz_s, mz_s, ih]; grind
theorem mz_s_mul (c : Int32) (f : Nat → Int32) (n : Nat) : mz_s (fun i => c * f i) n = c * mz_s f n := by
  induction n with
  | zero => rw [mz_s, mz_s]; grind
  | succ n ih => rw [mz_s, mz_s, ih]; grind
theorem mz_s_0 {f : Nat → Int32} {n : Nat} (h : ∀ i, i < n → f i = 0) : mz_s f n = 0 := by
  induction n with
  | zero => rfl
  | succ n ih => rw [mz_s, ih (fun i hi => h i (by omega)), h n (by omega)]; rfl
theorem mz_s_swap (f : Nat → Nat → Int32) (n m : Nat) : mz_s (fun i => mz_s (fun j => f i j) m) n = mz_s (fun j => mz_s (fun i => f i j) n) m := by
  induction n with
  | zero => rw [mz_s]; exact (mz_s_0 (fun i _ => by rw [mz_s])).symm
  | succ n ih =>
    rw [mz_s, ih, ← mz_s_add]
    exact mz_s_c (fun i _ => by rw [mz_s])
theorem mz_s_1 {f : Nat → Int32} {n j : Nat} (hj : j < n) (h : ∀ i, i < n → i ≠ j → f i = 0) : mz_s f n = f j := by
  induction n with
  | zero => omega
  | succ n ih =>
    rw [mz_s]
    by_cases e : j = n
    · subst e
      rw [mz_s_0 (fun i hi => h i (by omega) (by omega))]; grind
    · rw [ih (by omega) (fun i hi hn => h i (by omega) hn), h n (by omega) (fun z => e z.symm)]; grind
theorem mz_s_cat (f : Nat → Int32) (n m : Nat) : mz_s f (n + m) = mz_s f n + mz_s (fun i => f (n + i)) m := by
  induction m with
  | zero => rw [mz_s, Nat.add_zero]; grind
  | succ m ih => rw [← Nat.add_assoc, mz_s, mz_s, ih]; grind
theorem mz_s_dbl (f : Nat → Int32) (A B : Nat) : mz_s f (B * A) = mz_s (fun r => mz_s (fun s => f (B * r + s)) B) A := by
  induction A with
  | zero => rfl
  | succ A ih => rw [Nat.mul_succ, mz_s_cat, mz_s, ih]
def mz_sg (k : Nat) : Int32 := if k % 2 = 0 then 1 else -1
/-- a sum with signs is that of the even places less that of the odd ones -/
theorem mz_pair (g : Nat → Int32) (h : Nat) : mz_s (fun k => mz_sg k * g k) (2 * h) = mz_s (fun j => g (2 * j)) h - mz_s (fun j => g (2 * j + 1)) h := by
  induction h with
  | zero => rw [Nat.mul_zero, mz_s, mz_s, mz_s]; grind
  | succ h ih =>
    have e1 : mz_sg (2 * h) = 1 := if_pos (by omega)
    have e2 : mz_sg (2 * h + 1) = -1 := if_neg (by omega)
    rw [Nat.mul_succ, show 2 * h + 2 = (2 * h + 1) + 1 from rfl, mz_s, mz_s, ih, mz_s, mz_s, e1, e2]; grind
/-! loops for the kernel -/
noncomputable def mz_al (n : Nat) (f : Nat → Bool) : Bool := Nat.rec (motive := fun _ => Bool) true (fun k ih => cond (f k) ih false) n
theorem mz_al_of {n : Nat} {f : Nat → Bool} (h : mz_al n f = true) : ∀ i, i < n → f i = true := by
  induction n with
  | zero => intro i hi; omega
  | succ n ih =>
    intro i hi
    have e : mz_al (n + 1) f = cond (f n) (mz_al n f) false := rfl
    rw [e] at h
    cases hf : f n with
    | false => rw [hf] at h; cases h
    | true =>
      rw [hf] at h
      by_cases z : i = n
      · rw [z]; exact hf
      · exact ih h i (by omega)
noncomputable def mz_ns (n : Nat) (f : Nat → Nat) : Nat := Nat.rec (motive := fun _ => Nat) 0 (fun k ih => Nat.add ih (f k)) n
theorem mz_ns_s (n : Nat) (f : Nat → Nat) : nI (mz_ns n f) = mz_s (fun i => nI (f i)) n := by
  induction n with
  | zero => rfl
  | succ n ih =>
    have e : mz_ns (n + 1) f = mz_ns n f + f n := rfl
    rw [e, ← nI_add, ih, mz_s]
theorem mz_ns_le {n B : Nat} {f : Nat → Nat} (h : ∀ i, i < n → f i ≤ B) : mz_ns n f ≤ n * B := by
  induction n with
  | zero => exact Nat.zero_le _
  | succ n ih =>
    have e : mz_ns (n + 1) f = mz_ns n f + f n := rfl
    have := ih (fun i hi => h i (by omega))
    have := h n (by omega)
    rw [e, Nat.succ_mul]; omega
def mz_dg (N c : Nat) : Nat := Nat.mod (Nat.shiftRight N (Nat.mul 8 c)) 256
theorem mz_dg_lt (N c : Nat) : mz_dg N c < 256 := Nat.mod_lt _ (by decide)
def mz_ob (Q k : Nat) : Nat := Nat.mod (Nat.shiftRight Q (Nat.mul 12 k)) 4096
def mz_in (c q : Nat) : Nat := cond (Nat.beq c q) 1 0
theorem mz_in_1 (c : Nat) : mz_in c c = 1 := by unfold mz_in; rw [Nat.beq_refl]; rfl
theorem mz_in_0 {c q : Nat} (h : c ≠ q) : mz_in c q = 0 := by
  unfold mz_in
  cases hb : Nat.beq c q with
  | true => exact absurd (Nat.eq_of_beq_eq_true hb) h
  | false => rfl
