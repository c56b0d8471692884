/-! the primitives, from the arrays that a side has written to the picture -/
section
variable {rk dm am rk' dm' am' : Nat → Int32} {s t : Nat} {x y : ra_A} {fl : Int32} {c : Nat}
theorem ra_sum_congr {f g : Nat → Int32} : ∀ n, (∀ i, i < n → f i = g i) → ra_sum f n = ra_sum g n := by
  intro n
  induction n with
  | zero => intro _; rfl
  | succ n ih => intro h; rw [ra_sum, ra_sum, ih fun i hi => h i (by omega), h n (by omega)]
theorem ra_H_0 (hy : ra_H rk dm am s y) (h : 0 < ra_cnt y) : am (s * 32) = y.2.2 0 := hy.2.2 0 h
theorem ra_cnt_r0 (h : y.1 = 0) : ra_cnt y = 1 := (ra_it_0 h).2.2
theorem ra_P2 (hy : ra_H rk dm am s y) (hr : rk' t = 1) (hd : dm' (t * 3) = nI y.1) (ha : ∀ i, i < y.1 → am' (t * 32 + i) = dm (s * 3 + i)) : ra_H rk' dm' am' t (ra_PA fl 2 x y) := by
  refine ⟨hr, fun i hi => ?_, fun i hi => ?_⟩
  · have hi' : i < 1 := hi
    have : i = 0 := by omega
    subst this
    exact hd
  · have hi' : i < 1 * y.1 := hi
    exact (ha i (by omega)).trans (hy.2.1 i (by omega))
theorem ra_P3 (hy : ra_H rk dm am s y) (hr : rk' t = nI y.1) (hd : ∀ i, i < y.1 → dm' (t * 3 + i) = nI (y.2.1 i))
    (ha : ∀ n, n < ra_len y * ra_it y → am' (t * 32 + n) = am (s * 32 + ((ra_len y - 1 - n / ra_it y) * ra_it y + n % ra_it y))) : ra_H rk' dm' am' t (ra_PA fl 3 x y) := by
  refine ⟨hr, hd, fun n hn => ?_⟩
  have hn' : n < ra_len y * ra_it y := by rw [← ra_cnt_li]; exact hn
  have p : 0 < ra_it y := by
    cases Nat.eq_zero_or_pos (ra_it y) with
    | inl z => rw [z, Nat.mul_zero] at hn'; omega
    | inr z => exact z
  have q : 0 < ra_len y := by
    cases Nat.eq_zero_or_pos (ra_len y) with
    | inl z => rw [z, Nat.zero_mul] at hn'; omega
    | inr z => exact z
  rw [ha n hn']
  refine hy.2.2 _ ?_
  rw [ra_cnt_li]
  exact ra_part (Nat.lt_of_le_of_lt (Nat.sub_le _ _) (show ra_len y - 1 < ra_len y by omega)) (Nat.le_refl _) (Nat.mod_lt _ p)
theorem ra_P3_0 (h0 : y.1 = 0) (hy : ra_H rk dm am s y) (hr : rk' t = 0) (ha : am' (t * 32) = am (s * 32)) : ra_H rk' dm' am' t (ra_PA fl 3 x y) := by
  refine ⟨hr.trans ?_, fun i hi => ?_, fun i hi => ?_⟩
  · show (0 : Int32) = nI y.1
    rw [h0]; rfl
  · have hi' : i < y.1 := hi
    omega
  · have hi' : i < ra_cnt y := hi
    rw [ra_cnt_r0 h0] at hi'
    have : i = 0 := by omega
    subst this
    show am' (t * 32 + 0) = y.2.2 ((ra_len y - 1 - 0 / ra_it y) * ra_it y + 0 % ra_it y)
    rw [(ra_it_0 h0).1, (ra_it_0 h0).2.1]
    exact ha.trans (hy.2.2 0 (by rw [ra_cnt_r0 h0]; omega))
theorem ra_tail_cnt {a : Nat → Int32} : ra_cnt (y.1 - 1, fun i => y.2.1 (1 + i), a) = ra_it y := ra_prod_congr _ (fun i _ => by rw [Nat.zero_add])
theorem ra_P4 (hy : ra_H rk dm am s y) (hr : rk' t = nI (y.1 - 1)) (hd : ∀ i, i < y.1 - 1 → dm' (t * 3 + i) = nI (y.2.1 (1 + i)))
    (ha : ∀ i, i < ra_it y → am' (t * 32 + i) = ra_sum (fun j => am (s * 32 + (j * ra_it y + i))) (ra_len y)) : ra_H rk' dm' am' t (ra_PA fl 4 x y) := by
  refine ⟨hr, hd, fun i hi => ?_⟩
  have hi' : i < ra_it y := by rw [← ra_tail_cnt (y := y)]; exact hi
  rw [ha i hi']
  refine ra_sum_congr _ (fun j hj => hy.2.2 _ ?_)
  rw [ra_cnt_li]
  exact ra_part hj (Nat.le_refl _) hi'
theorem ra_P4_0 (h0 : y.1 = 0) (hy : ra_H rk dm am s y) (hr : rk' t = 0) (ha : am' (t * 32) = am (s * 32)) : ra_H rk' dm' am' t (ra_PA fl 4 x y) := by
  refine ⟨hr.trans ?_, fun i hi => ?_, fun i hi => ?_⟩
  · show (0 : Int32) = nI (y.1 - 1)
    rw [h0]; rfl
  · have hi' : i < y.1 - 1 := hi
    omega
  · have hi' : i < ra_it y := by rw [← ra_tail_cnt (y := y)]; exact hi
    rw [(ra_it_0 h0).1] at hi'
    have : i = 0 := by omega
    subst this
    show am' (t * 32 + 0) = ra_sum (fun j => y.2.2 (j * ra_it y + 0)) (ra_len y)
    rw [(ra_it_0 h0).1, (ra_it_0 h0).2.1]
    show am' (t * 32) = 0 + y.2.2 0
    rw [Int32.zero_add]
    exact ha.trans (hy.2.2 0 (by rw [ra_cnt_r0 h0]; omega))
theorem ra_P5 (hy : ra_H rk dm am s y) (hr : rk' t = 1) (hd : dm' (t * 3) = nI (ra_cnt y)) (ha : ∀ i, i < ra_cnt y → am' (t * 32 + i) = am (s * 32 + i)) : ra_H rk' dm' am' t (ra_PA fl 5 x y) := by
  refine ⟨hr, fun i hi => ?_, fun i hi => ?_⟩
  · have hi' : i < 1 := hi
    have : i = 0 := by omega
    subst this
    exact hd
  · have hi' : i < 1 * ra_cnt y := hi
    exact (ha i (by omega)).trans (hy.2.2 i (by omega))
theorem ra_P10 (hy : ra_H rk dm am s y) (hr : rk' t = nI (ra_cnt x)) (hd : ∀ i, i < ra_cnt x → dm' (t * 3 + i) = nI (x.2.2 i).toNatClampNeg)
    (ha : ∀ i, i < ra_prod (fun i => (x.2.2 i).toNatClampNeg) 0 (ra_cnt x) → am' (t * 32 + i) = if 0 < ra_cnt y then am (s * 32 + i % ra_cnt y) else fl) : ra_H rk' dm' am' t (ra_PA fl 10 x y) := by
  refine ⟨hr, hd, fun i hi => ?_⟩
  rw [ha i hi]
  show _ = if 0 < ra_cnt y then y.2.2 (i % ra_cnt y) else fl
  by_cases e : 0 < ra_cnt y
  · rw [if_pos e, if_pos e]; exact hy.2.2 _ (Nat.mod_lt _ e)
  · rw [if_neg e, if_neg e]
theorem ra_take_cnt {m : Nat} {a : Nat → Int32} : ra_cnt (if y.1 = 0 then 1 else y.1, fun i => if i = 0 then m else y.2.1 i, a) = m * ra_it y := by
  by_cases h0 : y.1 = 0
  · rw [(ra_it_0 h0).1, if_pos h0]; show 1 * m = m * 1; omega
  · rw [if_neg h0]
    have e := ra_cnt_1 (fun i => if i = 0 then m else y.2.1 i) (y.1 - 1)
    rw [show 1 + (y.1 - 1) = y.1 by omega] at e
    refine e.trans ?_
    show m * _ = m * _
    congr 1
    exact ra_prod_congr _ (fun i _ => if_neg (by omega))
theorem ra_P11 (hy : ra_H rk dm am s y) (hr : rk' t = nI (if y.1 = 0 then 1 else y.1)) (hd0 : dm' (t * 3) = nI (ra_abs (x.2.2 0)))
    (hd : ∀ i, 1 ≤ i → i < y.1 → dm' (t * 3 + i) = nI (y.2.1 i))
    (ha : ∀ n, n < ra_abs (x.2.2 0) * ra_it y → am' (t * 32 + n) = if ra_src (x.2.2 0) (ra_len y) (n / ra_it y) < ra_len y then am (s * 32 + (ra_src (x.2.2 0) (ra_len y) (n / ra_it y) * ra_it y + n % ra_it y)) else fl) :
    ra_H rk' dm' am' t (ra_PA fl 11 x y) := by
  refine ⟨hr, fun i hi => ?_, fun n hn => ?_⟩
  · show dm' (t * 3 + i) = nI (if i = 0 then ra_abs (x.2.2 0) else y.2.1 i)
    have hi' : i < (if y.1 = 0 then 1 else y.1) := hi
    by_cases e : i = 0
    · subst e; exact hd0
    · rw [if_neg e]
      refine hd i (by omega) ?_
      by_cases z : y.1 = 0
      · rw [if_pos z] at hi'; omega
      · rw [if_neg z] at hi'; exact hi'
  · have hn' : n < ra_abs (x.2.2 0) * ra_it y := by rw [← ra_take_cnt (y := y)]; exact hn
    rw [ha n hn']
    show _ = if ra_src (x.2.2 0) (ra_len y) (n / ra_it y) < ra_len y then y.2.2 (ra_src (x.2.2 0) (ra_len y) (n / ra_it y) * ra_it y + n % ra_it y) else fl
    by_cases e : ra_src (x.2.2 0) (ra_len y) (n / ra_it y) < ra_len y
    · rw [if_pos e, if_pos e]
      have p : 0 < ra_it y := by
        cases Nat.eq_zero_or_pos (ra_it y) with
        | inl z => rw [z, Nat.mul_zero] at hn'; omega
        | inr z => exact z
      refine hy.2.2 _ ?_
      rw [ra_cnt_li]
      exact ra_part e (Nat.le_refl _) (Nat.mod_lt _ p)
    · rw [if_neg e, if_neg e]
theorem ra_P12 (hy : ra_H rk dm am s y) (hi : ra_idx (x.2.2 0) (ra_len y) < ra_len y) (hr : rk' t = nI (y.1 - 1)) (hd : ∀ i, i < y.1 - 1 → dm' (t * 3 + i) = nI (y.2.1 (1 + i)))
    (ha : ∀ i, i < ra_it y → am' (t * 32 + i) = am (s * 32 + (ra_idx (x.2.2 0) (ra_len y) * ra_it y + i))) : ra_H rk' dm' am' t (ra_PA fl 12 x y) := by
  refine ⟨hr, hd, fun i h => ?_⟩
  have h' : i < ra_it y := by rw [← ra_tail_cnt (y := y)]; exact h
  rw [ha i h']
  refine hy.2.2 _ ?_
  rw [ra_cnt_li]
  exact ra_part hi (Nat.le_refl _) h'
/-! the items -/
theorem ra_it_le {a : ra_A} (hc : c ≤ 32) (w : ra_W c a) : ra_it a ≤ 1024 := by
  have h3 : a.1 - 1 ≤ 2 := by have := w.1; omega
  refine Nat.le_trans (ra_prod_le (b := 32) _ (fun i hi => ?_)) (Nat.le_trans (Nat.pow_le_pow_right (by decide) h3) (by decide))
  exact Nat.le_trans (w.2.1 (1 + i) (by omega)) hc
theorem ra_len_le {a : ra_A} (h1 : 1 ≤ c) (w : ra_W c a) : ra_len a ≤ c := by
  unfold ra_len
  by_cases e : a.1 = 0
  · rw [if_pos e]; exact h1
  · rw [if_neg e]; exact w.2.1 0 (by omega)
theorem ra_src_n {z : Int32} {n k : Nat} (h : z < 0) (g : ra_abs z ≤ n + k) : ra_src z n k = n + k - ra_abs z := by unfold ra_src; rw [if_pos h, if_pos g]
theorem ra_src_x {z : Int32} {n k : Nat} (h : z < 0) (g : ¬ ra_abs z ≤ n + k) : ra_src z n k = n := by unfold ra_src; rw [if_pos h, if_neg g]
theorem ra_src_p {z : Int32} {n k : Nat} (h : ¬ z < 0) : ra_src z n k = k := by unfold ra_src; rw [if_neg h]
end
