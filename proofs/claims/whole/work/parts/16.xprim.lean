/-! X: the primitives -/
section
variable {c : Nat} {x y : ra_A} {fl : Int32}
theorem ra_PE1 : ra_PE c 1 x y = if y.2.2 0 < 0 then -2 else if nI c < y.2.2 0 then -4 else 0 := by unfold ra_PE; rw [if_pos rfl]
theorem ra_PE4 : ra_PE c 4 x y = if c < ra_it y then -4 else 0 := by unfold ra_PE; rw [if_neg (by decide), if_pos rfl]
theorem ra_PE10 : ra_PE c 10 x y = if ra_neg x = true then -2 else if 3 < ra_cnt x ∨ ra_big c x = true ∨ c < ra_prod (fun i => (x.2.2 i).toNatClampNeg) 0 (ra_cnt x) then -4 else 0 := by
  unfold ra_PE; rw [if_neg (by decide), if_neg (by decide), if_pos rfl]
theorem ra_PE11 : ra_PE c 11 x y = if c < ra_abs (x.2.2 0) ∨ c < ra_abs (x.2.2 0) * ra_it y then -4 else 0 := by
  unfold ra_PE; rw [if_neg (by decide), if_neg (by decide), if_neg (by decide), if_pos rfl]
theorem ra_PE12 : ra_PE c 12 x y = if (x.2.2 0).toInt < -(ra_len y : Int) ∨ (ra_len y : Int) ≤ (x.2.2 0).toInt then -3 else 0 := by
  unfold ra_PE; rw [if_neg (by decide), if_neg (by decide), if_neg (by decide), if_neg (by decide), if_pos rfl]
theorem ra_PEz {v : Nat} (h1 : v ≠ 1) (h4 : v ≠ 4) (h10 : v ≠ 10) (h11 : v ≠ 11) (h12 : v ≠ 12) : ra_PE c v x y = 0 := by
  unfold ra_PE; rw [if_neg h1, if_neg h4, if_neg h10, if_neg h11, if_neg h12]
theorem ra_PA1 : ra_PA fl 1 x y = (1, fun _ => (y.2.2 0).toNatClampNeg, fun i => nI i) := by unfold ra_PA; rw [if_neg (by decide), if_pos rfl]
theorem ra_blk_item {am : Nat → Int32} {b d z j : Nat} {src : Nat → Nat} (hs : b + src j * z + z ≤ d) :
    ra_blk (ra_blk am d (j * z) (fun n => am (b + (src (n / z) * z + n % z)))) (d + j * z) z (fun i => ra_blk am d (j * z) (fun n => am (b + (src (n / z) * z + n % z))) (b + src j * z + i)) = ra_blk am d ((j + 1) * z) (fun n => am (b + (src (n / z) * z + n % z))) := by
  rw [Nat.succ_mul]
  exact ra_blk_blk (fun i hi => by rw [ra_blk_out (by omega), (ra_item hi).1, (ra_item hi).2, Nat.add_assoc])
end
section
variable {post : Int32 → SX → Prop} {c : Nat} {x y : ra_A} {fv oa ol ov : Int32} {rk dm am xs ys xf yf fs fr wr wd : Nat → Int32}
theorem xm_giveScalar {v : Nat} {z : Int32} (e0 : ra_PE c v x y = 0) (ez : ra_PA fv v x y = ra_sc z) (hp : ∀ rk' dm' am', (∀ j, j ≠ 10 → ra_S rk dm am rk' dm' am' j) → (ra_PE c v x y = 0 → ra_H rk' dm' am' 10 (ra_PA fv v x y)) → post (ra_PE c v x y) (nI c, fv, oa, ol, ov, rk', dm', am', xs, ys, xf, yf, fs, fr, wr, wd))
 : wpX_giveScalar post (nI c, fv, oa, ol, ov, rk, dm, am, xs, ys, xf, yf, fs, fr, wr, wd) z := by
  unfold wpX_giveScalar
  refine nm_e (nm_e ?_)
  have := hp (upd rk 10 0) dm (upd am 320 z) (fun j hj => ra_S_sc hj) (fun _ => by rw [ez]; exact ra_H_sc)
  rw [e0] at this
  exact this
theorem xm_giveListShape {post : SX → Prop} {n : Int32} (hp : post (nI c, fv, oa, ol, ov, upd rk 10 1, upd dm 30 n, am, xs, ys, xf, yf, fs, fr, wr, wd)) : wpX_giveListShape post (nI c, fv, oa, ol, ov, rk, dm, am, xs, ys, xf, yf, fs, fr, wr, wd) n := by
  unfold wpX_giveListShape
  exact nm_e (nm_e hp)
theorem xm_iota (hc : c ≤ 32) (hp : ∀ rk' dm' am', (∀ j, j ≠ 10 → ra_S rk dm am rk' dm' am' j) → (ra_PE c 1 x y = 0 → ra_H rk' dm' am' 10 (ra_PA fv 1 x y)) → post (ra_PE c 1 x y) (nI c, fv, oa, ol, ov, rk', dm', am', xs, ys, xf, yf, fs, fr, wr, wd))
 : wpX_iota post (nI c, fv, oa, ol, ov, rk, dm, am, xs, ys, xf, yf, fs, fr, wr, wd) (y.2.2 0) := by
  unfold wpX_iota
  by_cases a : y.2.2 0 < 0
  · have e : ra_PE c 1 x y = -2 := by rw [ra_PE1, if_pos a]
    have := hp rk dm am (fun _ _ => ra_S_r) (fun z => absurd (e.symm.trans z) (by decide))
    rw [e] at this
    exact br_f (Int32.not_le.mpr a) this
  · refine br_t (Int32.not_lt.mp a) ?_
    by_cases b : nI c < y.2.2 0
    · have e : ra_PE c 1 x y = -4 := by rw [ra_PE1, if_neg a, if_pos b]
      have := hp rk dm am (fun _ _ => ra_S_r) (fun z => absurd (e.symm.trans z) (by decide))
      rw [e] at this
      exact br_f (Int32.not_le.mpr b) this
    · refine br_t (Int32.not_lt.mp b) ?_
      have e : ra_PE c 1 x y = 0 := by rw [ra_PE1, if_neg a, if_neg b]
      obtain ⟨n, hn, en⟩ := nI_of a
      rw [en] at b ⊢
      rw [nI_ltI (by omega) hn] at b
      have fin := hp (upd rk 10 1) (upd dm 30 (nI n)) (ra_blk am 320 n nI) (fun j hj => ra_S_list (by omega) hj) (fun _ => by
        rw [ra_PA1, en, nI_clamp hn]
        exact ra_H_list (fun i _ => rfl))
      rw [e] at fin
      refine xm_giveListShape ?_
      refine ra_loop0 (fun m i => wX_iota_25 post (nI n) (nI c) fv oa ol ov m (nI i) (upd rk 10 1) (upd dm 30 (nI n)) (ra_blk am 320 i nI) xs ys xf yf fs fr wr wd) n (fun m => ?_) (fun m i hi ih => ?_) (fun m h => ?_)
      · simp only [wX_iota_25]
        exact br_t (nI_le (Nat.le_refl _) (by omega)) fin
      · simp (disch := omega) only [wX_iota_25, ra_k320, nI_clamp, ra_inI, true_and, forall_eq, nI_1]
        refine br_f (nI_ge hi (by omega)) ?_
        rw [ra_blk_s rfl]
        exact ih
      · rw [ra_blk_0] at h
        exact h
theorem xm_shape (hc : c ≤ 32) (hy : ra_H rk dm am 7 y) (wy : ra_W c y) (hp : ∀ rk' dm' am', (∀ j, j ≠ 10 → ra_S rk dm am rk' dm' am' j) → (ra_PE c 2 x y = 0 → ra_H rk' dm' am' 10 (ra_PA fv 2 x y)) → post (ra_PE c 2 x y) (nI c, fv, oa, ol, ov, rk', dm', am', xs, ys, xf, yf, fs, fr, wr, wd))
 : wpX_shape post (nI c, fv, oa, ol, ov, rk, dm, am, xs, ys, xf, yf, fs, fr, wr, wd) := by
  have y3 := wy.1
  have e : ra_PE c 2 x y = 0 := ra_PEz (by decide) (by decide) (by decide) (by decide) (by decide)
  have fin := hp (upd rk 10 1) (upd dm 30 (nI y.1)) (ra_blk am 320 y.1 (fun i => dm (21 + i))) (fun j hj => ra_S_list (by omega) hj) (fun _ =>
    ra_P2 (s := 7) hy pk_us pk_us (fun i hi => ra_blk_in hi))
  rw [e] at fin
  unfold wpX_shape
  dsimp only
  rw [hy.1]
  refine xm_giveListShape ?_
  refine ra_loop0 (fun m i => wX_shape_13 post (nI c) fv oa ol ov m (nI i) (upd rk 10 1) (upd dm 30 (nI y.1)) (ra_blk am 320 i (fun i => dm (21 + i))) xs ys xf yf fs fr wr wd) y.1 (fun m => ?_) (fun m i hi ih => ?_) (fun m h => ?_)
  · simp only [wX_shape_13]
    rw [pk_un (by decide), hy.1]
    exact br_t (nI_le (Nat.le_refl _) (by omega)) fin
  · simp (disch := omega) only [wX_shape_13, ra_k21, ra_k320, nI_clamp, ra_inI, true_and, forall_eq, nI_1]
    rw [pk_un (by decide), hy.1]
    refine br_f (nI_ge hi (by omega)) ?_
    rw [pk_un (by omega), ra_blk_s rfl]
    exact ih
  · rw [ra_blk_0] at h
    exact h
theorem xm_itemCount {post : Int32 → Prop} (hy : ra_H rk dm am 7 y) (wy : ra_W c y) (hp : post (nI (ra_len y))) : wpX_itemCount post (nI c, fv, oa, ol, ov, rk, dm, am, xs, ys, xf, yf, fs, fr, wr, wd) := by
  have y3 := wy.1
  unfold wpX_itemCount
  unfold ra_len at hp
  by_cases e : y.1 = 0
  · rw [if_pos e] at hp
    exact br_t (hy.1.trans (by rw [e]; rfl)) hp
  · rw [if_neg e, ← hy.2.1 0 (by omega)] at hp
    exact br_f (fun z => e (by
      have z' := z
      rw [hy.1, ra_eq0 (by omega)] at z'
      exact z')) hp
theorem xm_copyItem {post : SX → Prop} {j k z : Nat} (hj : j * z + z ≤ 32) (hk : k * z + z ≤ 32) (hp : post (nI c, fv, oa, ol, ov, rk, dm, ra_blk am (320 + k * z) z (fun i => am (224 + j * z + i)), xs, ys, xf, yf, fs, fr, wr, wd)) : wpX_copyItem post (nI c, fv, oa, ol, ov, rk, dm, am, xs, ys, xf, yf, fs, fr, wr, wd) (nI j) (nI k) (nI z) := by
  unfold wpX_copyItem
  refine ra_loop0 (fun n i => wX_copyItem_3 post (nI j) (nI k) (nI z) (nI c) fv oa ol ov n (nI i) rk dm (ra_blk am (320 + k * z) i (fun i => am (224 + j * z + i))) xs ys xf yf fs fr wr wd) z (fun n => ?_) (fun n i hi ih => ?_) (fun n h => ?_)
  · simp only [wX_copyItem_3]
    exact br_t (nI_le (Nat.le_refl _) (by omega)) hp
  · simp (disch := omega) only [wX_copyItem_3, pk_mul, ra_k224, ra_k320, nI_add, nI_clamp, ra_inI, true_and, forall_eq, nI_1]
    refine br_f (nI_ge hi (by omega)) ?_
    rw [ra_blk_out (by omega), ra_blk_s rfl]
    exact ih
  · rw [ra_blk_0] at h
    exact h
theorem xm_fillItem {post : SX → Prop} {k z : Nat} (hk : k * z + z ≤ 32) (hp : post (nI c, fv, oa, ol, ov, rk, dm, ra_blk am (320 + k * z) z (fun _ => fv), xs, ys, xf, yf, fs, fr, wr, wd)) : wpX_fillItem post (nI c, fv, oa, ol, ov, rk, dm, am, xs, ys, xf, yf, fs, fr, wr, wd) (nI k) (nI z) := by
  unfold wpX_fillItem
  refine ra_loop0 (fun n i => wX_fillItem_2 post (nI k) (nI z) (nI c) fv oa ol ov n (nI i) rk dm (ra_blk am (320 + k * z) i (fun _ => fv)) xs ys xf yf fs fr wr wd) z (fun n => ?_) (fun n i hi ih => ?_) (fun n h => ?_)
  · simp only [wX_fillItem_2]
    exact br_t (nI_le (Nat.le_refl _) (by omega)) hp
  · simp (disch := omega) only [wX_fillItem_2, pk_mul, ra_k320, nI_add, nI_clamp, ra_inI, true_and, forall_eq, nI_1]
    refine br_f (nI_ge hi (by omega)) ?_
    rw [ra_blk_s rfl]
    exact ih
  · rw [ra_blk_0] at h
    exact h
theorem xm_ravel (hc : c ≤ 32) (hy : ra_H rk dm am 7 y) (wy : ra_W c y) (hp : ∀ rk' dm' am', (∀ j, j ≠ 10 → ra_S rk dm am rk' dm' am' j) → (ra_PE c 5 x y = 0 → ra_H rk' dm' am' 10 (ra_PA fv 5 x y)) → post (ra_PE c 5 x y) (nI c, fv, oa, ol, ov, rk', dm', am', xs, ys, xf, yf, fs, fr, wr, wd))
 : wpX_ravel post (nI c, fv, oa, ol, ov, rk, dm, am, xs, ys, xf, yf, fs, fr, wr, wd) := by
  have y3 := wy.1
  have yc := wy.2.2
  have e : ra_PE c 5 x y = 0 := ra_PEz (by decide) (by decide) (by decide) (by decide) (by decide)
  unfold wpX_ravel
  dsimp only
  rw [hy.1]
  refine xm_product (s := 7) (f := 0) (d := y.2.1) (by decide) (by decide) y3 (fun i _ hi => hy.2.1 i hi) ?_
  refine xm_giveListShape ?_
  refine xm_copyItem (j := 0) (k := 0) (z := ra_cnt y) (by omega) (by omega) ?_
  have fin := hp (upd rk 10 1) (upd dm 30 (nI (ra_cnt y))) (ra_blk am (320 + 0 * ra_cnt y) (ra_cnt y) (fun i => am (224 + 0 * ra_cnt y + i)))
    (fun j hj => by rw [Nat.zero_mul]; exact ra_S_list (by omega) hj) (fun _ =>
    ra_P5 (s := 7) hy pk_us pk_us (fun i hi => by rw [Nat.zero_mul]; exact ra_blk_in hi))
  rw [e] at fin
  exact fin
theorem xm_reverse (hc : c ≤ 32) (hy : ra_H rk dm am 7 y) (wy : ra_W c y) (hp : ∀ rk' dm' am', (∀ j, j ≠ 10 → ra_S rk dm am rk' dm' am' j) → (ra_PE c 3 x y = 0 → ra_H rk' dm' am' 10 (ra_PA fv 3 x y)) → post (ra_PE c 3 x y) (nI c, fv, oa, ol, ov, rk', dm', am', xs, ys, xf, yf, fs, fr, wr, wd))
 : wpX_reverse post (nI c, fv, oa, ol, ov, rk, dm, am, xs, ys, xf, yf, fs, fr, wr, wd) := by
  have y3 := wy.1
  have yc := wy.2.2
  rw [ra_cnt_li] at yc
  have ib := ra_it_le hc wy
  have e : ra_PE c 3 x y = 0 := ra_PEz (by decide) (by decide) (by decide) (by decide) (by decide)
  have hin : ∀ j, j < ra_len y → j * ra_it y + ra_it y ≤ 32 := fun j hj => by
    have : (j + 1) * ra_it y ≤ ra_len y * ra_it y := Nat.mul_le_mul_right _ hj
    rw [Nat.succ_mul] at this; omega
  have lb : ra_len y ≤ 32 := by
    unfold ra_len
    split
    · decide
    · exact Nat.le_trans (wy.2.1 0 (by omega)) hc
  have fin := hp (upd rk 10 (nI (y.1 - 0))) (ra_blk dm (10 * 3) (y.1 - 0) (fun i => dm (7 * 3 + 0 + i))) (ra_blk am 320 (ra_len y * ra_it y) (fun n => am (224 + ((ra_len y - 1 - n / ra_it y) * ra_it y + n % ra_it y))))
    (fun j hj => ra_S_blk (by omega) (by omega) hj) (fun _ =>
    ra_P3 (s := 7) hy pk_us (fun i hi => (ra_blk_in hi).trans (hy.2.1 i hi)) (fun i hi => ra_blk_in hi))
  rw [e] at fin
  unfold wpX_reverse
  refine xm_itemCount hy wy ?_
  dsimp only
  rw [hy.1]
  refine xm_product (s := 7) (f := 1) (d := y.2.1) (by decide) (by decide) y3 (fun i _ hi => hy.2.1 i hi) ?_
  refine xm_copyAxes (s := 7) (f := 0) (t := 10) (by decide) (by decide) (by decide) y3 (by decide) hy.1 ?_
  refine ra_loop0 (fun n j => wX_reverse_31 post (nI (ra_len y)) (nI (ra_it y)) n (nI j) (nI c) fv oa ol ov (upd rk 10 (nI (y.1 - 0))) (ra_blk dm (10 * 3) (y.1 - 0) (fun i => dm (7 * 3 + 0 + i))) (ra_blk am 320 (j * ra_it y) (fun n => am (224 + ((ra_len y - 1 - n / ra_it y) * ra_it y + n % ra_it y)))) xs ys xf yf fs fr wr wd) (ra_len y) (fun n => ?_) (fun n j hj ih => ?_) (fun n h => ?_)
  · simp only [wX_reverse_31]
    exact br_t (nI_le (Nat.le_refl _) (by omega)) fin
  · simp only [wX_reverse_31]
    refine br_f (nI_ge hj (by omega)) ?_
    rw [show nI (ra_len y) - 1 - nI j = nI (ra_len y - 1 - j) by
      rw [show (1 : Int32) = nI 1 from rfl, pk_sub (by omega), pk_sub (by omega)]]
    refine xm_copyItem (hin _ (by omega)) (hin j hj) ?_
    refine nm_r (nI_1 j) ?_
    have hs := hin (ra_len y - 1 - j) (by omega)
    have eb := ra_blk_item (am := am) (b := 224) (d := 320) (z := ra_it y) (j := j) (src := fun k => ra_len y - 1 - k) (by show 224 + (ra_len y - 1 - j) * ra_it y + ra_it y ≤ 320; omega)
    dsimp only at eb ⊢
    rw [eb]
    exact ih
  · rw [Nat.zero_mul, ra_blk_0] at h
    exact h
theorem xm_sum54 {J : Int32 → (Nat → Int32) → (Nat → Int32) → (Nat → Int32) → (Nat → Int32) → (Nat → Int32) → (Nat → Int32) → (Nat → Int32) → (Nat → Int32) → (Nat → Int32) → (Nat → Int32) → (Nat → Int32) → Prop} {len z i : Nat} (hi : i < z) (hz : len * z ≤ 32) (hz2 : z ≤ 32) (hl : len ≤ 32)
    (hp : J (nI (i + 1)) rk dm (upd am (320 + i) (ra_sum (fun j => am (224 + (j * z + i))) len)) xs ys xf yf fs fr wr wd) : ∃ n, wX_sum_54 post J (nI len) (nI z) (nI i) (nI c) fv oa ol ov rk dm am xs ys xf yf fs fr wr wd n 0 0 := by
  refine ra_loop (fun n j => wX_sum_54 post J (nI len) (nI z) (nI i) (nI c) fv oa ol ov rk dm am xs ys xf yf fs fr wr wd n (ra_sum (fun j => am (224 + (j * z + i))) j) (nI j)) len (fun n => ?_) (fun n j hj ih => ?_) 0 (Nat.zero_le _)
  · simp (disch := omega) only [wX_sum_54, ra_k320, nI_clamp, ra_inI, true_and, forall_eq, nI_1]
    exact br_t (nI_le (Nat.le_refl _) (by omega)) hp
  · have hb := ra_part (c := 32) hj hz hi
    simp (disch := omega) only [wX_sum_54, pk_mul, ra_k224, nI_add, nI_clamp, ra_inI, true_and, forall_eq, nI_1]
    refine br_f (nI_ge hj (by omega)) ?_
    rw [Nat.add_assoc]
    exact ih
theorem xm_sum (h8 : 8 ≤ c) (hc : c ≤ 32) (hy : ra_H rk dm am 7 y) (wy : ra_W c y) (hp : ∀ rk' dm' am', (∀ j, j ≠ 10 → ra_S rk dm am rk' dm' am' j) → (ra_PE c 4 x y = 0 → ra_H rk' dm' am' 10 (ra_PA fv 4 x y)) → post (ra_PE c 4 x y) (nI c, fv, oa, ol, ov, rk', dm', am', xs, ys, xf, yf, fs, fr, wr, wd))
 : wpX_sum post (nI c, fv, oa, ol, ov, rk, dm, am, xs, ys, xf, yf, fs, fr, wr, wd) := by
  have y3 := wy.1
  have ht : ∀ i, i < y.1 - 1 → dm (7 * 3 + 1 + i) = nI (y.2.1 (1 + i)) := fun i hi => by
    rw [Nat.add_assoc]; exact hy.2.1 (1 + i) (by omega)
  have yc := wy.2.2
  rw [ra_cnt_li] at yc
  have ib := ra_it_le hc wy
  have lb := ra_len_le (by omega) wy
  unfold wpX_sum
  refine xm_itemCount hy wy ?_
  refine xm_copyAxes (s := 7) (f := 1) (t := 10) (by decide) (by decide) (by decide) y3 (by decide) hy.1 ?_
  refine xm_limitError (s := 10) (r := y.1 - 1) (d := fun i => y.2.1 (1 + i)) hc (by decide) (by omega) pk_us (fun i hi => (ra_blk_in hi).trans (ht i hi)) (fun i hi => ?_) ?_
  · have := wy.2.1 (1 + i) (by omega)
    show y.2.1 (1 + i) < 2 ^ 31
    omega
  rw [ra_lim_le (fun i hi => wy.2.1 (1 + i) (by omega)), show ra_prod (fun i => y.2.1 (1 + i)) 0 (y.1 - 1) = ra_it y from ra_tail_cnt (a := y.2.2)]
  by_cases g : c < ra_it y
  · have e : ra_PE c 4 x y = -4 := by rw [ra_PE4, if_pos g]
    rw [if_pos (decide_eq_true g)]
    have := hp (upd rk 10 (nI (y.1 - 1))) (ra_blk dm (10 * 3) (y.1 - 1) (fun i => dm (7 * 3 + 1 + i))) am (fun j hj => ⟨pk_un hj, fun i hi => ra_blk_out (by omega), fun _ _ => rfl⟩) (fun z => absurd (e.symm.trans z) (by decide))
    rw [e] at this
    exact br_f (by decide) this
  · have e : ra_PE c 4 x y = 0 := by rw [ra_PE4, if_neg g]
    rw [if_neg (fun z => g (of_decide_eq_true z))]
    refine br_t rfl ?_
    have fin := hp (upd rk 10 (nI (y.1 - 1))) (ra_blk dm (10 * 3) (y.1 - 1) (fun i => dm (7 * 3 + 1 + i))) (ra_blk am 320 (ra_it y) (fun i => ra_sum (fun j => am (224 + (j * ra_it y + i))) (ra_len y)))
      (fun j hj => ra_S_blk (by omega) (by omega) hj) (fun _ =>
      ra_P4 (s := 7) hy pk_us (fun i hi => (ra_blk_in hi).trans (ht i hi)) (fun i hi => ra_blk_in hi))
    rw [e] at fin
    rw [pk_us]
    refine xm_product (s := 10) (f := 0) (d := fun i => y.2.1 (1 + i)) (by decide) (by decide) (by omega) (fun i _ hi => (ra_blk_in hi).trans (ht i hi)) ?_
    rw [show ra_prod (fun i => y.2.1 (1 + i)) 0 (y.1 - 1 - 0) = ra_it y from ra_tail_cnt (a := y.2.2)]
    refine ra_loop0 (fun n i => wX_sum_43 post (nI (ra_len y)) (nI (ra_it y)) (nI c) fv oa ol ov n (nI i) (upd rk 10 (nI (y.1 - 1))) (ra_blk dm (10 * 3) (y.1 - 1) (fun i => dm (7 * 3 + 1 + i))) (ra_blk am 320 i (fun i => ra_sum (fun j => am (224 + (j * ra_it y + i))) (ra_len y))) xs ys xf yf fs fr wr wd) (ra_it y) (fun n => ?_) (fun n i hi ih => ?_) (fun n h => ?_)
    · simp only [wX_sum_43]
      exact br_t (nI_le (Nat.le_refl _) (by omega)) fin
    · simp only [wX_sum_43]
      refine br_f (nI_ge hi (by omega)) ?_
      refine xm_sum54 hi (by omega) (by omega) (by omega) ?_
      have es : ra_sum (fun j => ra_blk am 320 i (fun i => ra_sum (fun j => am (224 + (j * ra_it y + i))) (ra_len y)) (224 + (j * ra_it y + i))) (ra_len y) = ra_sum (fun j => am (224 + (j * ra_it y + i))) (ra_len y) :=
        ra_sum_congr _ (fun j hj => ra_blk_out (by have := ra_part (c := 32) hj (by omega) hi; omega))
      rw [es, ra_blk_s rfl]
      exact ih
    · rw [ra_blk_0] at h
      exact h
theorem xm_from (h8 : 8 ≤ c) (hc : c ≤ 32) (hy : ra_H rk dm am 7 y) (wy : ra_W c y) (hp : ∀ rk' dm' am', (∀ j, j ≠ 10 → ra_S rk dm am rk' dm' am' j) → (ra_PE c 12 x y = 0 → ra_H rk' dm' am' 10 (ra_PA fv 12 x y)) → post (ra_PE c 12 x y) (nI c, fv, oa, ol, ov, rk', dm', am', xs, ys, xf, yf, fs, fr, wr, wd))
 : wpX_from post (nI c, fv, oa, ol, ov, rk, dm, am, xs, ys, xf, yf, fs, fr, wr, wd) (x.2.2 0) := by
  have y3 := wy.1
  have ht : ∀ i, i < y.1 - 1 → dm (7 * 3 + 1 + i) = nI (y.2.1 (1 + i)) := fun i hi => by
    rw [Nat.add_assoc]; exact hy.2.1 (1 + i) (by omega)
  have yc := wy.2.2
  rw [ra_cnt_li] at yc
  have ib := ra_it_le hc wy
  have lb := ra_len_le (by omega) wy
  unfold wpX_from
  refine xm_itemCount hy wy ?_
  have nl : (-nI (ra_len y)).toInt = -(ra_len y : Int) := sb_negT (by omega)
  by_cases a : x.2.2 0 < -nI (ra_len y)
  · have e : ra_PE c 12 x y = -3 := by
      rw [ra_PE12, if_pos (.inl (by rw [Int32.lt_iff_toInt_lt, nl] at a; exact a))]
    have := hp rk dm am (fun _ _ => ra_S_r) (fun z => absurd (e.symm.trans z) (by decide))
    rw [e] at this
    exact br_t a this
  · refine br_f a ?_
    by_cases b : x.2.2 0 < nI (ra_len y)
    · refine br_t b ?_
      have e : ra_PE c 12 x y = 0 := by
        rw [ra_PE12, if_neg]
        rw [Int32.lt_iff_toInt_lt, nl] at a
        rw [Int32.lt_iff_toInt_lt, nI_toInt (by omega)] at b
        omega
      have hidx : ra_idx (x.2.2 0) (ra_len y) < ra_len y := by
        unfold ra_idx
        by_cases z : x.2.2 0 < 0
        · rw [if_pos z]; exact (ra_idx_n (by omega) z a).2
        · rw [if_neg z]
          rw [ra_abs_p z, nI_ltI (by unfold ra_abs; have := Int32.toInt_lt (x.2.2 0); have := Int32.le_toInt (x.2.2 0); rw [Int32.lt_iff_toInt_lt, ra_t0] at z; omega) (by omega)] at b
          exact b
      have hin : ra_idx (x.2.2 0) (ra_len y) * ra_it y + ra_it y ≤ 32 := by
        have : (ra_idx (x.2.2 0) (ra_len y) + 1) * ra_it y ≤ ra_len y * ra_it y := Nat.mul_le_mul_right _ hidx
        rw [Nat.succ_mul] at this; omega
      have fin := hp (upd rk 10 (nI (y.1 - 1))) (ra_blk dm (10 * 3) (y.1 - 1) (fun i => dm (7 * 3 + 1 + i))) (ra_blk am (320 + 0 * ra_it y) (ra_it y) (fun i => am (224 + ra_idx (x.2.2 0) (ra_len y) * ra_it y + i)))
        (fun j hj => by rw [Nat.zero_mul]; exact ra_S_blk (by omega) (by omega) hj) (fun _ =>
        ra_P12 (s := 7) hy hidx pk_us (fun i hi => (ra_blk_in hi).trans (ht i hi)) (fun i hi => by rw [Nat.zero_mul, ← Nat.add_assoc]; exact ra_blk_in hi))
      rw [e] at fin
      dsimp only
      rw [hy.1]
      refine xm_product (s := 7) (f := 1) (d := y.2.1) (by decide) (by decide) y3 (fun i _ hi => hy.2.1 i hi) ?_
      refine xm_copyAxes (s := 7) (f := 1) (t := 10) (by decide) (by decide) (by decide) y3 (by decide) hy.1 ?_
      have mk : ∀ z : Int32, z = nI (ra_idx (x.2.2 0) (ra_len y)) → wX_from_55 post (nI (ra_it y)) z (nI c) fv oa ol ov (upd rk 10 (nI (y.1 - 1))) (ra_blk dm (10 * 3) (y.1 - 1) (fun i => dm (7 * 3 + 1 + i))) am xs ys xf yf fs fr wr wd := by
        intro z ez
        subst ez
        unfold wX_from_55
        exact xm_copyItem (k := 0) hin (by omega) fin
      by_cases z : x.2.2 0 < 0
      · refine br_f (Int32.not_le.mpr z) (mk _ ?_)
        unfold ra_idx
        rw [if_pos z]
        exact (ra_idx_n (by omega) z a).1
      · refine br_t (Int32.not_lt.mp z) (mk _ ?_)
        unfold ra_idx
        rw [if_neg z]
        exact ra_abs_p z
    · have e : ra_PE c 12 x y = -3 := by
        rw [ra_PE12, if_pos (.inr (by rw [Int32.lt_iff_toInt_lt, nI_toInt (by omega)] at b; omega))]
      have := hp rk dm am (fun _ _ => ra_S_r) (fun z => absurd (e.symm.trans z) (by decide))
      rw [e] at this
      exact br_f b this
end
