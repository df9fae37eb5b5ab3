/-! the component: products, halves, lines -/
def mz_db (i : Nat) (x y : Int32) : Int32 := if x - x / 2 * 2 = 0 ∧ y - y / 2 * 2 = 0 then mz_T i (x / 2) (y / 2) else 0
def mz_td (i t : Nat) (u v : Int32) : Int32 := mz_s (fun k => mz_sg k * mz_db i (u - mz_X t k 1 1) (v - mz_Y t k 1 1)) (2 * mz_h t)
def mz_ln (i : Nat) (e k : Int32) : Int32 := if e = 0 then mz_s (fun s => mz_T i k (nI s - nI 20)) 41 else mz_s (fun s => mz_T i (nI s - nI 20) k) 41
section
variable {t : Nat} {ft f1 f2 f3 f4 : Int32} {aA aB cA cB fn cn : Nat → Int32}

variable {j : Nat}
theorem xw_tp {post : Int32 → Prop} {x y u v : Int32} (ht : t < 4) (hM : xw_M t aA aB cA cB) (hT : ∀ x y, xw_ga fn x y = mz_T j x y) (h : post (mz_tp j t x y (u + 1) (v + 1))) :
    wpX_timesInProduct post (ft, (mz_p t), (mz_q t), (nI (2 * mz_h t)), f1, f2, f3, f4, aA, aB, cA, cB, fn, cn) x y u v := by
  have h12 := xw_h12 ht
  unfold wpX_timesInProduct
  dsimp only
  refine pk_loop (fun n i s => wX_timesInProduct_6 post x y u v ft (mz_p t) (mz_q t) (nI (2 * mz_h t)) f1 f2 f3 f4 aA aB cA cB fn cn n s (nI i)) (fun i s => s = mz_s (fun k => mz_sg k * mz_T j (u + 1 - mz_X t k (x + 1) (y + 1)) (v + 1 - mz_Y t k (x + 1) (y + 1))) i) (2 * mz_h t) 0 0 (by omega) rfl ?_ ?_
  · intro n s hs
    refine br_t (nI_le (Nat.le_refl _) (by omega)) ?_
    rw [hs]; exact h
  · intro n i s hi hs ih
    refine br_f (nI_ge hi (by omega)) (xw_mF ht hM hi fun x7 e7 => xw_mS ht hM hi fun x8 e8 => xw_sg (by omega) (xw_at_f fun x5 e5 x6 e6 => ?_))
    rw [e6, nI_1]
    refine ih _ ?_
    rw [e5, e7, e8, hs, hT, mz_s]
theorem xw_td {post : Int32 → Prop} {u v : Int32} (ht : t < 4) (hM : xw_M t aA aB cA cB) (hT : ∀ x y, xw_ga fn x y = mz_T j x y) (h : post (mz_td j t (u + 1) (v + 1))) :
    wpX_timesInDouble post (ft, (mz_p t), (mz_q t), (nI (2 * mz_h t)), f1, f2, f3, f4, aA, aB, cA, cB, fn, cn) u v := by
  have h12 := xw_h12 ht
  unfold wpX_timesInDouble
  dsimp only
  refine pk_loop (fun n i s => wX_timesInDouble_5 post u v ft (mz_p t) (mz_q t) (nI (2 * mz_h t)) f1 f2 f3 f4 aA aB cA cB fn cn n s (nI i)) (fun i s => s = mz_s (fun k => mz_sg k * mz_db j (u + 1 - mz_X t k 1 1) (v + 1 - mz_Y t k 1 1)) i) (2 * mz_h t) 0 0 (by omega) rfl ?_ ?_
  · intro n s hs
    refine br_t (nI_le (Nat.le_refl _) (by omega)) ?_
    rw [hs]; exact h
  · intro n i s hi hs ih
    refine br_f (nI_ge hi (by omega)) (xw_mF ht hM hi fun x5 e5 => xw_mS ht hM hi fun x6 e6 => ⟨by decide, br_c (fun c1 => ⟨by decide, br_c (fun c2 => xw_sg (by omega) ⟨by decide, by decide, xw_at_f fun x3 e3 x4 e4 => ?_⟩) fun c2 x4 e4 => ?_⟩) fun c1 x4 e4 => ?_⟩)
    · rw [e4, nI_1]
      refine ih _ ?_
      rw [e5] at c1
      rw [e6] at c2
      rw [e3, e5, e6, hs, hT, mz_s, mz_db, if_pos ⟨c1, c2⟩]
    · rw [e4, nI_1]
      refine ih _ ?_
      rw [e6] at c2
      rw [hs, mz_s, mz_db, if_neg (fun z => c2 z.2)]; grind
    · rw [e4, nI_1]
      refine ih _ ?_
      rw [e5] at c1
      rw [hs, mz_s, mz_db, if_neg (fun z => c1 z.1)]; grind
def xw_k1 (j t : Nat) (x y : Int32) (c d : Nat) : Int32 := if mz_tp j t x y (nI c + 1) (nI d + 1) = 0 then 0 else 1
theorem xw_kinds {post : Int32 → Prop} (ht : t < 4) (hM : xw_M t aA aB cA cB) (hT : ∀ x y, xw_ga fn x y = mz_T j x y) (h : post (mz_s (fun c => mz_s (fun d => xw_k1 j t f3 f4 c d) 41) 41)) :
    wpX_kinds post (ft, (mz_p t), (mz_q t), (nI (2 * mz_h t)), f1, f2, f3, f4, aA, aB, cA, cB, fn, cn) := by
  unfold wpX_kinds
  dsimp only
  refine pk_loop (fun n i s => wX_kinds_4 post ft (mz_p t) (mz_q t) (nI (2 * mz_h t)) f1 f2 f3 f4 aA aB cA cB fn cn n s (nI i)) (fun i s => s = mz_s (fun c => mz_s (fun d => xw_k1 j t f3 f4 c d) 41) i) 41 0 0 (by omega) rfl ?_ ?_
  · intro n s hs
    refine br_t (nI_lt (a := 40) (b := 41) (by decide) (by decide)) ?_
    rw [hs]; exact h
  · intro n c s hc hs ih
    refine br_f (nI_nlt (a := 40) (b := c) (by omega) (by omega)) ?_
    refine pk_loop (fun m d z => wX_kinds_12 post (wX_kinds_4 post ft (mz_p t) (mz_q t) (nI (2 * mz_h t)) f1 f2 f3 f4 aA aB cA cB fn cn n) (nI c) ft (mz_p t) (mz_q t) (nI (2 * mz_h t)) f1 f2 f3 f4 aA aB cA cB fn cn m z (nI d)) (fun d z => z = s + mz_s (fun d => xw_k1 j t f3 f4 c d) d) 41 0 s (by omega) (by rw [mz_s]; grind) ?_ ?_
    · intro m z hz
      refine br_t (nI_lt (a := 40) (b := 41) (by decide) (by decide)) (fun x2 e2 => ?_)
      rw [e2, nI_1]
      refine ih _ ?_
      rw [hz, hs]; rfl
    · intro m d z hd hz ih2
      refine br_f (nI_nlt (a := 40) (b := d) (by omega) (by omega)) (xw_tp ht hM hT (br_c (fun c1 x3 e3 => ?_) (fun c1 x1 e1 x3 e3 => ?_)))
      · rw [e3, nI_1]
        refine ih2 _ ?_
        rw [hz, mz_s, xw_k1, if_pos c1]; grind
      · rw [e3, nI_1]
        refine ih2 _ ?_
        rw [e1, hz, mz_s, xw_k1, if_neg c1]; grind
theorem xw_total {post : Int32 → Prop} (ht : t < 4) (hM : xw_M t aA aB cA cB) (hT : ∀ x y, xw_ga fn x y = mz_T j x y) (h : post (mz_s (fun c => mz_s (fun d => mz_tp j t f3 f4 (nI c + 1) (nI d + 1)) 41) 41)) :
    wpX_total post (ft, (mz_p t), (mz_q t), (nI (2 * mz_h t)), f1, f2, f3, f4, aA, aB, cA, cB, fn, cn) := by
  unfold wpX_total
  dsimp only
  refine pk_loop (fun n i s => wX_total_4 post ft (mz_p t) (mz_q t) (nI (2 * mz_h t)) f1 f2 f3 f4 aA aB cA cB fn cn n s (nI i)) (fun i s => s = mz_s (fun c => mz_s (fun d => mz_tp j t f3 f4 (nI c + 1) (nI d + 1)) 41) i) 41 0 0 (by omega) rfl ?_ ?_
  · intro n s hs
    refine br_t (nI_lt (a := 40) (b := 41) (by decide) (by decide)) ?_
    rw [hs]; exact h
  · intro n c s hc hs ih
    refine br_f (nI_nlt (a := 40) (b := c) (by omega) (by omega)) ?_
    refine pk_loop (fun m d z => wX_total_12 post (wX_total_4 post ft (mz_p t) (mz_q t) (nI (2 * mz_h t)) f1 f2 f3 f4 aA aB cA cB fn cn n) (nI c) ft (mz_p t) (mz_q t) (nI (2 * mz_h t)) f1 f2 f3 f4 aA aB cA cB fn cn m z (nI d)) (fun d z => z = s + mz_s (fun d => mz_tp j t f3 f4 (nI c + 1) (nI d + 1)) d) 41 0 s (by omega) (by rw [mz_s]; grind) ?_ ?_
    · intro m z hz
      refine br_t (nI_lt (a := 40) (b := 41) (by decide) (by decide)) (fun x2 e2 => ?_)
      rw [e2, nI_1]
      refine ih _ ?_
      rw [hz, hs]; rfl
    · intro m d z hd hz ih2
      refine br_f (nI_nlt (a := 40) (b := d) (by omega) (by omega)) (xw_tp ht hM hT (fun x1 e1 x3 e3 => ?_))
      rw [e3, nI_1]
      refine ih2 _ ?_
      rw [e1, hz, mz_s]; grind
theorem xw_line {post : Int32 → Prop} {e k : Int32} (hT : ∀ x y, xw_ga fn x y = mz_T j x y) (h : post (mz_ln j e k)) : wpX_lineSum post (ft, (mz_p t), (mz_q t), (nI (2 * mz_h t)), f1, f2, f3, f4, aA, aB, cA, cB, fn, cn) e k := by
  unfold wpX_lineSum
  dsimp only
  have e2 := xw_20.2
  have key := pk_loop (fun n i s => wX_lineSum_6 post e k ft (mz_p t) (mz_q t) (nI (2 * mz_h t)) f1 f2 f3 f4 aA aB cA cB fn cn n s (nI i - nI 20)) (fun i s => s = if e = 0 then mz_s (fun s => mz_T j k (nI s - nI 20)) i else mz_s (fun s => mz_T j (nI s - nI 20) k) i) 41 0 0 (by omega) (by split <;> rfl) ?_ ?_
  · exact key
  · intro n s hs
    refine br_t (by decide) ?_
    rw [hs]; exact h
  · intro n i s hi hs ih
    have e4' : ∀ z : Int32, z = nI i - nI 20 + 1 → z = nI (i + 1) - nI 20 := by
      intro z hz; rw [hz, ← nI_1 i]; grind
    refine br_f (by rw [mz_lt, mz_sub_to (by omega) (by omega)]; omega) (br_c (fun c => xw_at_f fun x3 e3 x4 e4 => ?_) (fun c => xw_at_f fun x3 e3 x4 e4 => ?_))
    · rw [e4' x4 e4]
      refine ih _ ?_
      rw [if_pos c] at hs ⊢
      rw [e3, hs, hT, mz_s]
    · rw [e4' x4 e4]
      refine ih _ ?_
      rw [if_neg c] at hs ⊢
      rw [e3, hs, hT, mz_s]
end
