/-! X: a verb's primitive; A -/
section
variable {post : Int32 → SX → Prop} {c : Nat} {x y : ra_A} {fv oa ol ov : Int32} {rk dm am xs ys xf yf fs fr wr wd : Nat → Int32}
theorem xm_primitive {v : Nat} (hv : v ≤ 12) (h8 : 8 ≤ c) (hc : c ≤ 32) (hx : ra_H rk dm am 5 x) (hy : ra_H rk dm am 7 y) (wx : ra_W c x) (wy : ra_W c y) (hfx : x.1 ≤ ra_dL v) (hfy : y.1 ≤ ra_dR v) (hp : ∀ rk' dm' am', (∀ j, j ≠ 10 → ra_S rk dm am rk' dm' am' j) → (ra_PE c v x y = 0 → ra_H rk' dm' am' 10 (ra_PA fv v x y)) → post (ra_PE c v x y) (nI c, fv, oa, ol, ov, rk', dm', am', xs, ys, xf, yf, fs, fr, wr, wd))
 : wpX_primitive post (nI c, fv, oa, ol, ov, rk, dm, am, xs, ys, xf, yf, fs, fr, wr, wd) (nI v) := by
  have gx : x.1 = 0 → am 160 = x.2.2 0 := fun h => hx.2.2 0 (by rw [ra_cnt_r0 h]; decide)
  have gy : y.1 = 0 → am 224 = y.2.2 0 := fun h => hy.2.2 0 (by rw [ra_cnt_r0 h]; decide)
  unfold wpX_primitive
  refine nm_e (nm_e ?_)
  match v, hv with
  | 0, _ =>
    refine br_f (by decide) (br_f (by decide) (br_t rfl ?_))
    rw [gy (Nat.le_zero.mp hfy)]
    exact xm_giveScalar (v := 0) (ra_PEz (by decide) (by decide) (by decide) (by decide) (by decide)) (by unfold ra_PA; rw [if_pos rfl]) hp
  | 1, _ =>
    refine br_f (by decide) (br_f (by decide) (br_f (by decide) (br_t rfl ?_)))
    rw [gy (Nat.le_zero.mp hfy)]
    exact xm_iota hc hp
  | 2, _ =>
    refine br_f (by decide) (br_f (by decide) (br_f (by decide) (br_f (by decide) (br_t rfl ?_))))
    exact xm_shape hc hy wy hp
  | 3, _ =>
    refine br_f (by decide) (br_f (by decide) (br_f (by decide) (br_f (by decide) (br_f (by decide) (br_t rfl ?_)))))
    exact xm_reverse hc hy wy hp
  | 4, _ =>
    refine br_f (by decide) (br_f (by decide) (br_f (by decide) (br_f (by decide) (br_f (by decide) (br_f (by decide) (br_t rfl ?_))))))
    exact xm_sum h8 hc hy wy hp
  | 5, _ =>
    refine br_f (by decide) (br_f (by decide) (br_f (by decide) (br_f (by decide) (br_f (by decide) (br_f (by decide) (br_f (by decide) (br_t rfl ?_)))))))
    exact xm_ravel hc hy wy hp
  | 6, _ =>
    refine br_f (by decide) (br_f (by decide) (br_f (by decide) (br_f (by decide) (br_f (by decide) (br_f (by decide) (br_f (by decide) (br_f (by decide) (br_t rfl ?_))))))))
    rw [gy (Nat.le_zero.mp hfy), gx (Nat.le_zero.mp hfx)]
    exact xm_giveScalar (v := 6) (ra_PEz (by decide) (by decide) (by decide) (by decide) (by decide)) (by unfold ra_PA; rw [if_neg (by decide), if_neg (by decide), if_neg (by decide), if_neg (by decide), if_neg (by decide), if_neg (by decide), if_pos rfl]) hp
  | 7, _ =>
    refine br_f (by decide) (br_f (by decide) (br_f (by decide) (br_f (by decide) (br_f (by decide) (br_f (by decide) (br_f (by decide) (br_f (by decide) (br_f (by decide) (br_t rfl ?_)))))))))
    rw [gy (Nat.le_zero.mp hfy), gx (Nat.le_zero.mp hfx)]
    exact xm_giveScalar (v := 7) (ra_PEz (by decide) (by decide) (by decide) (by decide) (by decide)) (by unfold ra_PA; rw [if_neg (by decide), if_neg (by decide), if_neg (by decide), if_neg (by decide), if_neg (by decide), if_neg (by decide), if_neg (by decide), if_pos rfl]) hp
  | 8, _ =>
    refine br_f (by decide) (br_f (by decide) (br_f (by decide) (br_f (by decide) (br_f (by decide) (br_f (by decide) (br_f (by decide) (br_f (by decide) (br_f (by decide) (br_f (by decide) (br_t rfl ?_))))))))))
    rw [gy (Nat.le_zero.mp hfy), gx (Nat.le_zero.mp hfx)]
    exact xm_giveScalar (v := 8) (ra_PEz (by decide) (by decide) (by decide) (by decide) (by decide)) (by unfold ra_PA; rw [if_neg (by decide), if_neg (by decide), if_neg (by decide), if_neg (by decide), if_neg (by decide), if_neg (by decide), if_neg (by decide), if_neg (by decide), if_pos rfl]) hp
  | 9, _ =>
    refine br_f (by decide) (br_f (by decide) (br_f (by decide) (br_f (by decide) (br_f (by decide) (br_f (by decide) (br_f (by decide) (br_f (by decide) (br_f (by decide) (br_f (by decide) (br_f (by decide) (br_t rfl ?_)))))))))))
    rw [gy (Nat.le_zero.mp hfy), gx (Nat.le_zero.mp hfx)]
    unfold wX_primitive_148
    by_cases g : y.2.2 0 < x.2.2 0
    · exact br_f (Int32.not_le.mpr g) (xm_giveScalar (v := 9) (ra_PEz (by decide) (by decide) (by decide) (by decide) (by decide)) (by unfold ra_PA; rw [if_neg (by decide), if_neg (by decide), if_neg (by decide), if_neg (by decide), if_neg (by decide), if_neg (by decide), if_neg (by decide), if_neg (by decide), if_neg (by decide), if_pos rfl, if_pos g]) hp)
    · exact br_t (Int32.not_lt.mp g) (xm_giveScalar (v := 9) (ra_PEz (by decide) (by decide) (by decide) (by decide) (by decide)) (by unfold ra_PA; rw [if_neg (by decide), if_neg (by decide), if_neg (by decide), if_neg (by decide), if_neg (by decide), if_neg (by decide), if_neg (by decide), if_neg (by decide), if_neg (by decide), if_pos rfl, if_neg g]) hp)
  | 10, _ =>
    refine br_f (by decide) (br_f (by decide) (br_f (by decide) (br_f (by decide) (br_f (by decide) (br_f (by decide) (br_f (by decide) (br_f (by decide) (br_f (by decide) (br_f (by decide) (br_f (by decide) (br_f (by decide) (br_t rfl ?_))))))))))))
    exact xm_reshape h8 hc hx wx hy wy hp
  | 11, _ =>
    refine br_f (by decide) (br_f (by decide) (br_f (by decide) (br_f (by decide) (br_f (by decide) (br_f (by decide) (br_f (by decide) (br_f (by decide) (br_f (by decide) (br_f (by decide) (br_f (by decide) (br_f (by decide) (br_f (by decide) (br_t rfl ?_)))))))))))))
    rw [gx (Nat.le_zero.mp hfx)]
    exact xm_take h8 hc hy wy hp
  | 12, _ =>
    refine br_f (by decide) (br_t (by decide) ?_)
    rw [gx (Nat.le_zero.mp hfx)]
    exact xm_from h8 hc hy wy hp
end
