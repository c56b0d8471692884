/-! the reference: the primitives -/
section
variable {post : Int32 → SY → Prop} {c sx sy t : Nat} {x y : ra_A} {fv oa ol ov : Int32} {rk dm am lx ly lm lfx lfy lfr lp lk lc lf lM : Nat → Int32}

theorem ym_head {v : Nat} (hsx : sx < 11) (hsy : sy < 11) (hy : ra_H rk dm am sy y) (wy : ra_W c y) (hp : wY_prim_112 post (nI v) (nI sx) (nI sy) (nI t) (nI y.1) (am (sx * 32)) (am (sy * 32)) (nI (ra_cnt y)) (nI (ra_len y)) (nI (y.1 - 1)) (nI (ra_it y)) (nI c) fv oa ol ov rk dm am lx ly lm lfx lfy lfr lp lk lc lf lM
) : wpY_prim post (nI c, fv, oa, ol, ov, rk, dm, am, lx, ly, lm, lfx, lfy, lfr, lp, lk, lc, lf, lM) (nI v) (nI sx) (nI sy) (nI t) := by
  have y3 := wy.1
  have lp : ∀ z0, z0 = nI (ra_len y) → wY_prim_54 post (nI v) (nI sx) (nI sy) (nI t) (nI y.1) (am (sx * 32)) (am (sy * 32)) (nI (ra_cnt y)) z0 (nI c) fv oa ol ov rk dm am lx ly lm lfx lfy lfr lp lk lc lf lM := by
    intro z0 ez
    subst ez
    have l2 : ∃ n, wY_prim_77 post (nI v) (nI sx) (nI sy) (nI t) (nI y.1) (am (sx * 32)) (am (sy * 32)) (nI (ra_cnt y)) (nI (ra_len y)) (nI (y.1 - 1)) (nI c) fv oa ol ov rk dm am lx ly lm lfx lfy lfr lp lk lc lf lM n 1 1 := by
      refine ra_loop (fun n i => wY_prim_77 post (nI v) (nI sx) (nI sy) (nI t) (nI y.1) (am (sx * 32)) (am (sy * 32)) (nI (ra_cnt y)) (nI (ra_len y)) (nI (y.1 - 1)) (nI c) fv oa ol ov rk dm am lx ly lm lfx lfy lfr lp lk lc lf lM n (nI (ra_prod y.2.1 1 i)) (nI (1 + i))) (y.1 - 1) (fun n => ?_) (fun n i hi ih => ?_) 0 (Nat.zero_le _)
      · simp only [wY_prim_77]
        exact br_t (nI_le (by omega) (by omega)) hp
      · simp (disch := omega) only [wY_prim_77, ra_m3, nI_add, nI_clamp, ra_inI, true_and, forall_eq, nI_1, hy.2.1 (1 + i) (by omega), pk_mul]
        refine br_f (nI_ge (by omega) (by omega)) (br_f (by rw [ra_le3 (by omega)]; omega) ?_)
        exact ih
    unfold wY_prim_54
    by_cases e : y.1 = 0
    · refine br_t (by rw [e]; rfl) ?_
      rw [show nI (y.1 - 1) = 0 by rw [e]; rfl] at l2
      exact l2
    · exact br_f (nI_ne0 (by omega) (by omega)) (nm_r (pk_sub (b := 1) (by omega)) l2)
  unfold wpY_prim
  dsimp only
  simp (disch := omega) only [ra_m3, ra_m32, nI_clamp, ra_inI, true_and, forall_eq, hy.1]
  refine ym_cnt hsy y3 hy.1 hy.2.1 ?_
  by_cases e : y.1 = 0
  · refine br_t (by rw [e]; rfl) (lp _ ?_)
    unfold ra_len
    rw [if_pos e]; rfl
  · refine br_f (nI_ne0 (by omega) (by omega)) (lp _ ?_)
    unfold ra_len
    rw [if_neg e]
    exact hy.2.1 0 (by omega)
theorem ym_206 {v : Nat} {z : Int32} (ht : t < 11) (e0 : ra_PE c v x y = 0) (ez : ra_PA fv v x y = ra_sc z) (hp : ∀ rk' dm' am', (∀ j, j ≠ t → ra_S rk dm am rk' dm' am' j) → (ra_PE c v x y = 0 → ra_H rk' dm' am' t (ra_PA fv v x y)) → post (ra_PE c v x y) (nI c, fv, oa, ol, ov, rk', dm', am', lx, ly, lm, lfx, lfy, lfr, lp, lk, lc, lf, lM))
 : wY_prim_206 post (nI t) z (nI c) fv oa ol ov rk dm am lx ly lm lfx lfy lfr lp lk lc lf lM := by
  unfold wY_prim_206
  simp (disch := omega) only [ra_m32, nI_clamp, ra_inI, true_and, forall_eq]
  have := hp (upd rk t 0) dm (upd am (t * 32) z) (fun j hj => ra_S_sc hj) (fun _ => by rw [ez]; exact ra_H_sc)
  rw [e0] at this
  exact this
theorem ym_p0 (ht : t < 11) (hy : am (sy * 32) = y.2.2 0) (hp : ∀ rk' dm' am', (∀ j, j ≠ t → ra_S rk dm am rk' dm' am' j) → (ra_PE c 0 x y = 0 → ra_H rk' dm' am' t (ra_PA fv 0 x y)) → post (ra_PE c 0 x y) (nI c, fv, oa, ol, ov, rk', dm', am', lx, ly, lm, lfx, lfy, lfr, lp, lk, lc, lf, lM))
 : wY_prim_112 post 0 (nI sx) (nI sy) (nI t) (nI y.1) (am (sx * 32)) (am (sy * 32)) (nI (ra_cnt y)) (nI (ra_len y)) (nI (y.1 - 1)) (nI (ra_it y)) (nI c) fv oa ol ov rk dm am lx ly lm lfx lfy lfr lp lk lc lf lM
 := by
  unfold wY_prim_112 wY_prim_140 wY_prim_158 wY_prim_171 wY_prim_184
  refine br_t rfl ?_
  rw [hy]
  exact nm_e (br_f (by decide) (br_f (by decide) (br_f (by decide) (br_f (by decide) (ym_206 (v := 0) ht (ra_PEz (by decide) (by decide) (by decide) (by decide) (by decide)) (by unfold ra_PA; rw [if_pos rfl]) hp)))))
theorem ym_p6 (ht : t < 11) (hy : am (sy * 32) = y.2.2 0) (hx : am (sx * 32) = x.2.2 0) (hp : ∀ rk' dm' am', (∀ j, j ≠ t → ra_S rk dm am rk' dm' am' j) → (ra_PE c 6 x y = 0 → ra_H rk' dm' am' t (ra_PA fv 6 x y)) → post (ra_PE c 6 x y) (nI c, fv, oa, ol, ov, rk', dm', am', lx, ly, lm, lfx, lfy, lfr, lp, lk, lc, lf, lM))
 : wY_prim_112 post 6 (nI sx) (nI sy) (nI t) (nI y.1) (am (sx * 32)) (am (sy * 32)) (nI (ra_cnt y)) (nI (ra_len y)) (nI (y.1 - 1)) (nI (ra_it y)) (nI c) fv oa ol ov rk dm am lx ly lm lfx lfy lfr lp lk lc lf lM
 := by
  unfold wY_prim_112 wY_prim_140 wY_prim_158 wY_prim_171 wY_prim_184
  refine br_f (by decide) (br_t rfl ?_)
  rw [hy, hx]
  exact nm_e (br_t rfl (nm_e (br_f (by decide) (br_f (by decide) (br_f (by decide) (ym_206 (v := 6) ht (ra_PEz (by decide) (by decide) (by decide) (by decide) (by decide)) (by unfold ra_PA; rw [if_neg (by decide), if_neg (by decide), if_neg (by decide), if_neg (by decide), if_neg (by decide), if_neg (by decide), if_pos rfl]) hp))))))
theorem ym_p7 (ht : t < 11) (hy : am (sy * 32) = y.2.2 0) (hx : am (sx * 32) = x.2.2 0) (hp : ∀ rk' dm' am', (∀ j, j ≠ t → ra_S rk dm am rk' dm' am' j) → (ra_PE c 7 x y = 0 → ra_H rk' dm' am' t (ra_PA fv 7 x y)) → post (ra_PE c 7 x y) (nI c, fv, oa, ol, ov, rk', dm', am', lx, ly, lm, lfx, lfy, lfr, lp, lk, lc, lf, lM))
 : wY_prim_112 post 7 (nI sx) (nI sy) (nI t) (nI y.1) (am (sx * 32)) (am (sy * 32)) (nI (ra_cnt y)) (nI (ra_len y)) (nI (y.1 - 1)) (nI (ra_it y)) (nI c) fv oa ol ov rk dm am lx ly lm lfx lfy lfr lp lk lc lf lM
 := by
  unfold wY_prim_112 wY_prim_140 wY_prim_158 wY_prim_171 wY_prim_184
  refine br_f (by decide) (br_f (by decide) (br_t rfl ?_))
  rw [hy, hx]
  exact nm_e (br_f (by decide) (br_t rfl (nm_e (br_f (by decide) (br_f (by decide) (ym_206 (v := 7) ht (ra_PEz (by decide) (by decide) (by decide) (by decide) (by decide)) (by unfold ra_PA; rw [if_neg (by decide), if_neg (by decide), if_neg (by decide), if_neg (by decide), if_neg (by decide), if_neg (by decide), if_neg (by decide), if_pos rfl]) hp))))))
theorem ym_p8 (ht : t < 11) (hy : am (sy * 32) = y.2.2 0) (hx : am (sx * 32) = x.2.2 0) (hp : ∀ rk' dm' am', (∀ j, j ≠ t → ra_S rk dm am rk' dm' am' j) → (ra_PE c 8 x y = 0 → ra_H rk' dm' am' t (ra_PA fv 8 x y)) → post (ra_PE c 8 x y) (nI c, fv, oa, ol, ov, rk', dm', am', lx, ly, lm, lfx, lfy, lfr, lp, lk, lc, lf, lM))
 : wY_prim_112 post 8 (nI sx) (nI sy) (nI t) (nI y.1) (am (sx * 32)) (am (sy * 32)) (nI (ra_cnt y)) (nI (ra_len y)) (nI (y.1 - 1)) (nI (ra_it y)) (nI c) fv oa ol ov rk dm am lx ly lm lfx lfy lfr lp lk lc lf lM
 := by
  unfold wY_prim_112 wY_prim_140 wY_prim_158 wY_prim_171 wY_prim_184
  refine br_f (by decide) (br_f (by decide) (br_f (by decide) (br_t rfl ?_)))
  rw [hy, hx]
  exact nm_e (br_f (by decide) (br_f (by decide) (br_t rfl (nm_e (br_f (by decide) (ym_206 (v := 8) ht (ra_PEz (by decide) (by decide) (by decide) (by decide) (by decide)) (by unfold ra_PA; rw [if_neg (by decide), if_neg (by decide), if_neg (by decide), if_neg (by decide), if_neg (by decide), if_neg (by decide), if_neg (by decide), if_neg (by decide), if_pos rfl]) hp))))))
theorem ym_p9 (ht : t < 11) (hy : am (sy * 32) = y.2.2 0) (hx : am (sx * 32) = x.2.2 0) (hp : ∀ rk' dm' am', (∀ j, j ≠ t → ra_S rk dm am rk' dm' am' j) → (ra_PE c 9 x y = 0 → ra_H rk' dm' am' t (ra_PA fv 9 x y)) → post (ra_PE c 9 x y) (nI c, fv, oa, ol, ov, rk', dm', am', lx, ly, lm, lfx, lfy, lfr, lp, lk, lc, lf, lM))
 : wY_prim_112 post 9 (nI sx) (nI sy) (nI t) (nI y.1) (am (sx * 32)) (am (sy * 32)) (nI (ra_cnt y)) (nI (ra_len y)) (nI (y.1 - 1)) (nI (ra_it y)) (nI c) fv oa ol ov rk dm am lx ly lm lfx lfy lfr lp lk lc lf lM
 := by
  unfold wY_prim_112 wY_prim_140 wY_prim_158 wY_prim_171 wY_prim_184 wY_prim_204
  refine br_f (by decide) (br_f (by decide) (br_f (by decide) (br_f (by decide) (br_t rfl ?_))))
  rw [hy, hx]
  refine nm_e (br_f (by decide) (br_f (by decide) (br_f (by decide) (br_t rfl ?_))))
  by_cases g : y.2.2 0 < x.2.2 0
  · exact br_f (Int32.not_le.mpr g) (ym_206 (v := 9) ht (ra_PEz (by decide) (by decide) (by decide) (by decide) (by decide)) (by unfold ra_PA; rw [if_neg (by decide), if_neg (by decide), if_neg (by decide), if_neg (by decide), if_neg (by decide), if_neg (by decide), if_neg (by decide), if_neg (by decide), if_neg (by decide), if_pos rfl, if_pos g]) hp)
  · exact br_t (Int32.not_lt.mp g) (ym_206 (v := 9) ht (ra_PEz (by decide) (by decide) (by decide) (by decide) (by decide)) (by unfold ra_PA; rw [if_neg (by decide), if_neg (by decide), if_neg (by decide), if_neg (by decide), if_neg (by decide), if_neg (by decide), if_neg (by decide), if_neg (by decide), if_neg (by decide), if_pos rfl, if_neg g]) hp)
theorem ym_p1 (hc : c ≤ 32) (ht : t < 11) (hy0 : am (sy * 32) = y.2.2 0) (hp : ∀ rk' dm' am', (∀ j, j ≠ t → ra_S rk dm am rk' dm' am' j) → (ra_PE c 1 x y = 0 → ra_H rk' dm' am' t (ra_PA fv 1 x y)) → post (ra_PE c 1 x y) (nI c, fv, oa, ol, ov, rk', dm', am', lx, ly, lm, lfx, lfy, lfr, lp, lk, lc, lf, lM))
 : wY_prim_112 post 1 (nI sx) (nI sy) (nI t) (nI y.1) (am (sx * 32)) (am (sy * 32)) (nI (ra_cnt y)) (nI (ra_len y)) (nI (y.1 - 1)) (nI (ra_it y)) (nI c) fv oa ol ov rk dm am lx ly lm lfx lfy lfr lp lk lc lf lM
 := by
  unfold wY_prim_112
  refine br_f (by decide) (br_f (by decide) (br_f (by decide) (br_f (by decide) (br_f (by decide) (br_t rfl ?_)))))
  rw [hy0]
  by_cases a : y.2.2 0 < 0
  · have e : ra_PE c 1 x y = -2 := by rw [ra_PE1, if_pos a]
    have := hp rk dm am (fun _ _ => ra_S_r) (fun z => absurd (e.symm.trans z) (by decide))
    rw [e] at this
    exact br_f (Int32.not_le.mpr a) this
  · refine br_t (Int32.not_lt.mp a) ?_
    by_cases b : nI c < y.2.2 0
    · have e : ra_PE c 1 x y = -4 := by rw [ra_PE1, if_neg a, if_pos b]
      have := hp rk dm am (fun _ _ => ra_S_r) (fun z => absurd (e.symm.trans z) (by decide))
      rw [e] at this
      exact br_f (Int32.not_le.mpr b) this
    · refine br_t (Int32.not_lt.mp b) ?_
      have e : ra_PE c 1 x y = 0 := by rw [ra_PE1, if_neg a, if_neg b]
      obtain ⟨n, hn, en⟩ := nI_of a
      rw [en] at b ⊢
      rw [nI_ltI (by omega) hn] at b
      have fin := hp (upd rk t 1) (upd dm (t * 3) (nI n)) (ra_blk am (t * 32) n nI) (fun j hj => ra_S_list (by omega) hj) (fun _ => by
        rw [ra_PA1, en, nI_clamp hn]
        exact ra_H_list (fun i _ => rfl))
      rw [e] at fin
      simp (disch := omega) only [ra_m3, nI_clamp, ra_inI, true_and, forall_eq]
      refine ra_loop0 (fun m i => wY_prim_275 post (nI t) (nI n) (nI c) fv oa ol ov m (nI i) (upd rk t 1) (upd dm (t * 3) (nI n)) (ra_blk am (t * 32) i nI) lx ly lm lfx lfy lfr lp lk lc lf lM) n (fun m => ?_) (fun m i hi ih => ?_) (fun m h => ?_)
      · simp only [wY_prim_275]
        exact br_t (nI_le (Nat.le_refl _) (by omega)) fin
      · simp (disch := omega) only [wY_prim_275, ra_m32, nI_add, nI_clamp, ra_inI, true_and, forall_eq, nI_1]
        refine br_f (nI_ge hi (by omega)) (br_f (by rw [ra_le32 (by omega)]; omega) ?_)
        rw [ra_blk_s rfl]
        exact ih
      · rw [ra_blk_0] at h
        exact h
theorem ym_p2 (hc : c ≤ 32) (hsy : sy < 11) (ht : t < 11) (hst : sy ≠ t) (hy : ra_H rk dm am sy y) (wy : ra_W c y) (hp : ∀ rk' dm' am', (∀ j, j ≠ t → ra_S rk dm am rk' dm' am' j) → (ra_PE c 2 x y = 0 → ra_H rk' dm' am' t (ra_PA fv 2 x y)) → post (ra_PE c 2 x y) (nI c, fv, oa, ol, ov, rk', dm', am', lx, ly, lm, lfx, lfy, lfr, lp, lk, lc, lf, lM))
 : wY_prim_112 post 2 (nI sx) (nI sy) (nI t) (nI y.1) (am (sx * 32)) (am (sy * 32)) (nI (ra_cnt y)) (nI (ra_len y)) (nI (y.1 - 1)) (nI (ra_it y)) (nI c) fv oa ol ov rk dm am lx ly lm lfx lfy lfr lp lk lc lf lM
 := by
  have y3 := wy.1
  have e : ra_PE c 2 x y = 0 := ra_PEz (by decide) (by decide) (by decide) (by decide) (by decide)
  have fin := hp (upd rk t 1) (upd dm (t * 3) (nI y.1)) (ra_blk am (t * 32) y.1 (fun i => dm (sy * 3 + i))) (fun j hj => ra_S_list (by omega) hj) (fun _ =>
    ra_P2 hy pk_us pk_us (fun i hi => ra_blk_in hi))
  rw [e] at fin
  unfold wY_prim_112
  refine br_f (by decide) (br_f (by decide) (br_f (by decide) (br_f (by decide) (br_f (by decide) (br_f (by decide) (br_t rfl ?_))))))
  simp (disch := omega) only [ra_m3, nI_clamp, ra_inI, true_and, forall_eq]
  refine ra_loop0 (fun m i => wY_prim_339 post (nI sy) (nI t) (nI y.1) (nI c) fv oa ol ov m (nI i) (upd rk t 1) (upd dm (t * 3) (nI y.1)) (ra_blk am (t * 32) i (fun i => dm (sy * 3 + i))) lx ly lm lfx lfy lfr lp lk lc lf lM) y.1 (fun m => ?_) (fun m i hi ih => ?_) (fun m h => ?_)
  · simp only [wY_prim_339]
    exact br_t (nI_le (Nat.le_refl _) (by omega)) fin
  · simp (disch := omega) only [wY_prim_339, ra_m3, ra_m32, nI_add, nI_clamp, ra_inI, true_and, forall_eq, nI_1]
    refine br_f (nI_ge hi (by omega)) (br_f (by rw [ra_le3 (by omega)]; omega) ?_)
    rw [pk_un (by omega), ra_blk_s rfl]
    exact ih
  · rw [ra_blk_0] at h
    exact h
theorem ym_p5 (hc : c ≤ 32) (hsy : sy < 11) (ht : t < 11) (hst : sy ≠ t) (hy : ra_H rk dm am sy y) (wy : ra_W c y) (hp : ∀ rk' dm' am', (∀ j, j ≠ t → ra_S rk dm am rk' dm' am' j) → (ra_PE c 5 x y = 0 → ra_H rk' dm' am' t (ra_PA fv 5 x y)) → post (ra_PE c 5 x y) (nI c, fv, oa, ol, ov, rk', dm', am', lx, ly, lm, lfx, lfy, lfr, lp, lk, lc, lf, lM))
 : wY_prim_112 post 5 (nI sx) (nI sy) (nI t) (nI y.1) (am (sx * 32)) (am (sy * 32)) (nI (ra_cnt y)) (nI (ra_len y)) (nI (y.1 - 1)) (nI (ra_it y)) (nI c) fv oa ol ov rk dm am lx ly lm lfx lfy lfr lp lk lc lf lM
 := by
  have yc := wy.2.2
  have e : ra_PE c 5 x y = 0 := ra_PEz (by decide) (by decide) (by decide) (by decide) (by decide)
  have fin := hp (upd rk t 1) (upd dm (t * 3) (nI (ra_cnt y))) (ra_blk am (t * 32) (ra_cnt y) (fun i => am (sy * 32 + i))) (fun j hj => ra_S_list (by omega) hj) (fun _ =>
    ra_P5 hy pk_us pk_us (fun i hi => ra_blk_in hi))
  rw [e] at fin
  unfold wY_prim_112
  refine br_f (by decide) (br_f (by decide) (br_f (by decide) (br_f (by decide) (br_f (by decide) (br_f (by decide) (br_f (by decide) (br_t rfl ?_)))))))
  simp (disch := omega) only [ra_m3, nI_clamp, ra_inI, true_and, forall_eq]
  refine ra_loop0 (fun m i => wY_prim_411 post (nI sy) (nI t) (nI (ra_cnt y)) (nI c) fv oa ol ov m (nI i) (upd rk t 1) (upd dm (t * 3) (nI (ra_cnt y))) (ra_blk am (t * 32) i (fun i => am (sy * 32 + i))) lx ly lm lfx lfy lfr lp lk lc lf lM) (ra_cnt y) (fun m => ?_) (fun m i hi ih => ?_) (fun m h => ?_)
  · simp only [wY_prim_411]
    exact br_t (nI_le (Nat.le_refl _) (by omega)) fin
  · simp (disch := omega) only [wY_prim_411, ra_m32, nI_add, nI_clamp, ra_inI, true_and, forall_eq, nI_1]
    refine br_f (nI_ge hi (by omega)) (br_f (by rw [ra_le32 (by omega)]; omega) ?_)
    rw [ra_blk_out (by omega), ra_blk_s rfl]
    exact ih
  · rw [ra_blk_0] at h
    exact h
theorem ym_p3 (hc : c ≤ 32) (hsy : sy < 11) (ht : t < 11) (hst : sy ≠ t) (hy : ra_H rk dm am sy y) (wy : ra_W c y) (hp : ∀ rk' dm' am', (∀ j, j ≠ t → ra_S rk dm am rk' dm' am' j) → (ra_PE c 3 x y = 0 → ra_H rk' dm' am' t (ra_PA fv 3 x y)) → post (ra_PE c 3 x y) (nI c, fv, oa, ol, ov, rk', dm', am', lx, ly, lm, lfx, lfy, lfr, lp, lk, lc, lf, lM))
 : wY_prim_112 post 3 (nI sx) (nI sy) (nI t) (nI y.1) (am (sx * 32)) (am (sy * 32)) (nI (ra_cnt y)) (nI (ra_len y)) (nI (y.1 - 1)) (nI (ra_it y)) (nI c) fv oa ol ov rk dm am lx ly lm lfx lfy lfr lp lk lc lf lM
 := by
  have y3 := wy.1
  have yc := wy.2.2
  rw [ra_cnt_li] at yc
  have ib := ra_it_le hc wy
  have e : ra_PE c 3 x y = 0 := ra_PEz (by decide) (by decide) (by decide) (by decide) (by decide)
  have lb : ra_len y ≤ 32 := by
    unfold ra_len
    split
    · decide
    · exact Nat.le_trans (wy.2.1 0 (by omega)) hc
  unfold wY_prim_112 wY_prim_468
  refine br_f (by decide) (br_f (by decide) (br_f (by decide) (br_f (by decide) (br_f (by decide) (br_f (by decide) (br_f (by decide) (br_f (by decide) (br_t rfl ?_))))))))
  by_cases y0 : y.1 = 0
  · refine br_t (by rw [y0]; rfl) ?_
    simp (disch := omega) only [ra_m32, nI_clamp, ra_inI, true_and, forall_eq]
    have fin := hp (upd rk t 0) dm (upd am (t * 32) (am (sy * 32))) (fun j hj => ra_S_sc hj) (fun _ => ra_P3_0 y0 hy pk_us pk_us)
    rw [e] at fin
    exact fin
  refine br_f (nI_ne0 (by omega) (by omega)) ?_
  unfold wY_prim_495
  refine br_t rfl ?_
  simp (disch := omega) only [nI_clamp, ra_inI, true_and, forall_eq]
  have fin := hp (upd rk t (nI y.1)) (ra_blk dm (t * 3) 3 (fun i => dm (sy * 3 + i))) (ra_blk am (t * 32) (ra_len y * ra_it y) (fun n => am (sy * 32 + ((ra_len y - 1 - n / ra_it y) * ra_it y + n % ra_it y))))
    (fun j hj => ra_S_blk (by omega) (by omega) hj) (fun _ =>
    ra_P3 hy pk_us (fun i hi => (ra_blk_in (by omega)).trans (hy.2.1 i hi)) (fun i hi => ra_blk_in hi))
  rw [e] at fin
  refine ra_loop0 (fun m i => wY_prim_512 post (nI sy) (nI t) (nI (ra_len y)) (nI (ra_it y)) (nI c) fv oa ol ov m (nI i) (upd rk t (nI y.1)) (ra_blk dm (t * 3) i (fun i => dm (sy * 3 + i))) am lx ly lm lfx lfy lfr lp lk lc lf lM) 3 (fun m => ?_) (fun m i hi ih => ?_) (fun m h => ?_)
  · simp only [wY_prim_512]
    refine br_t (by decide) ?_
    refine ra_loop0 (fun m j => wY_prim_550 post (nI sy) (nI t) (nI (ra_len y)) (nI (ra_it y)) (nI c) fv oa ol ov m (nI j) (upd rk t (nI y.1)) (ra_blk dm (t * 3) 3 (fun i => dm (sy * 3 + i))) (ra_blk am (t * 32) (j * ra_it y) (fun n => am (sy * 32 + ((ra_len y - 1 - n / ra_it y) * ra_it y + n % ra_it y)))) lx ly lm lfx lfy lfr lp lk lc lf lM) (ra_len y) (fun m => ?_) (fun m j hj ih => ?_) (fun m h => ?_)
    · simp only [wY_prim_550]
      exact br_t (nI_le (Nat.le_refl _) (by omega)) fin
    · simp only [wY_prim_550]
      refine br_f (nI_ge hj (by omega)) (br_f (by rw [ra_le32 (by omega)]; omega) ?_)
      refine ra_loop0 (fun m2 k => wY_prim_567 post (wY_prim_550 post (nI sy) (nI t) (nI (ra_len y)) (nI (ra_it y)) (nI c) fv oa ol ov m) (nI sy) (nI t) (nI (ra_len y)) (nI (ra_it y)) (nI j) (nI c) fv oa ol ov m2 (nI k) (upd rk t (nI y.1)) (ra_blk dm (t * 3) 3 (fun i => dm (sy * 3 + i))) (ra_blk am (t * 32) (j * ra_it y + k) (fun n => am (sy * 32 + ((ra_len y - 1 - n / ra_it y) * ra_it y + n % ra_it y)))) lx ly lm lfx lfy lfr lp lk lc lf lM) (ra_it y) (fun m2 => ?_) (fun m2 k hk ih2 => ?_) (fun m2 h => ?_)
      · simp only [wY_prim_567, nI_1, forall_eq]
        rw [Nat.succ_mul] at ih
        exact br_t (nI_le (Nat.le_refl _) (by omega)) ih
      · have b1 := ra_part (c := 32) hj (by omega) hk
        have b2 := ra_part (q := ra_len y - 1 - j) (c := 32) (show ra_len y - 1 - j < ra_len y by omega) (by omega) hk
        simp only [wY_prim_567]
        rw [show nI (ra_len y) - 1 - nI j = nI (ra_len y - 1 - j) by rw [show (1 : Int32) = nI 1 from rfl, pk_sub (by omega), pk_sub (by omega)]]
        simp (disch := omega) only [ra_m32, pk_mul, nI_add, nI_clamp, ra_inI, true_and, forall_eq, nI_1]
        refine br_f (nI_ge hk (by omega)) (br_f (by rw [ra_le32 (by omega)]; omega) (br_f (nI_pos (by omega)) (br_f (by rw [ra_le32 (by omega)]; omega) (br_f (nI_pos (by omega)) (br_f (by rw [ra_le32 (by omega)]; omega) ?_)))))
        rw [ra_blk_out (by omega), ra_blk_s (by rw [(ra_item hk).1, (ra_item hk).2])]
        exact ih2
      · exact h
    · rw [Nat.zero_mul, ra_blk_0] at h
      exact h
  · simp (disch := omega) only [wY_prim_512, ra_m3, nI_add, nI_clamp, ra_inI, true_and, forall_eq, nI_1]
    refine br_f (by rw [ra_le3 (by omega)]; omega) ?_
    rw [ra_blk_out (by omega), ra_blk_s rfl]
    exact ih
  · rw [ra_blk_0] at h
    exact h
theorem ym_p4 (h8 : 8 ≤ c) (hc : c ≤ 32) (hsy : sy < 11) (ht : t < 11) (hst : sy ≠ t) (hy : ra_H rk dm am sy y) (wy : ra_W c y) (hp : ∀ rk' dm' am', (∀ j, j ≠ t → ra_S rk dm am rk' dm' am' j) → (ra_PE c 4 x y = 0 → ra_H rk' dm' am' t (ra_PA fv 4 x y)) → post (ra_PE c 4 x y) (nI c, fv, oa, ol, ov, rk', dm', am', lx, ly, lm, lfx, lfy, lfr, lp, lk, lc, lf, lM))
 : wY_prim_112 post 4 (nI sx) (nI sy) (nI t) (nI y.1) (am (sx * 32)) (am (sy * 32)) (nI (ra_cnt y)) (nI (ra_len y)) (nI (y.1 - 1)) (nI (ra_it y)) (nI c) fv oa ol ov rk dm am lx ly lm lfx lfy lfr lp lk lc lf lM
 := by
  have y3 := wy.1
  have yc := wy.2.2
  rw [ra_cnt_li] at yc
  have ib := ra_it_le hc wy
  have lb := ra_len_le (by omega) wy
  have hd1 : ∀ i, i < y.1 - 1 → dm (sy * 3 + 1 + i) = nI (y.2.1 (1 + i)) := fun i hi => by
    rw [Nat.add_assoc]; exact hy.2.1 (1 + i) (by omega)
  unfold wY_prim_112 wY_prim_468
  refine br_f (by decide) (br_f (by decide) (br_f (by decide) (br_f (by decide) (br_f (by decide) (br_f (by decide) (br_f (by decide) (br_f (by decide) (br_f (by decide) (br_t rfl ?_)))))))))
  by_cases y0 : y.1 = 0
  · have e : ra_PE c 4 x y = 0 := by rw [ra_PE4, (ra_it_0 y0).1, if_neg (by omega)]
    refine br_t (by rw [y0]; rfl) ?_
    simp (disch := omega) only [ra_m32, nI_clamp, ra_inI, true_and, forall_eq]
    have fin := hp (upd rk t 0) dm (upd am (t * 32) (am (sy * 32))) (fun j hj => ra_S_sc hj) (fun _ => ra_P4_0 y0 hy pk_us pk_us)
    rw [e] at fin
    exact fin
  refine br_f (nI_ne0 (by omega) (by omega)) ?_
  unfold wY_prim_495
  refine br_f (by decide) (br_t rfl ?_)
  by_cases g : c < ra_it y
  · have e : ra_PE c 4 x y = -4 := by rw [ra_PE4, if_pos g]
    have := hp rk dm am (fun _ _ => ra_S_r) (fun z => absurd (e.symm.trans z) (by decide))
    rw [e] at this
    exact br_f (nI_ge g (by omega)) this
  have e : ra_PE c 4 x y = 0 := by rw [ra_PE4, if_neg g]
  refine br_t (nI_le (by omega) (by omega)) ?_
  rw [show nI y.1 - 1 = nI (y.1 - 1) from pk_sub (b := 1) (by omega)]
  simp (disch := omega) only [nI_clamp, ra_inI, true_and, forall_eq]
  have fin := hp (upd rk t (nI (y.1 - 1))) (ra_blk dm (t * 3) (y.1 - 1) (fun i => dm (sy * 3 + 1 + i))) (ra_blk am (t * 32) (ra_it y) (fun i => ra_sum (fun j => am (sy * 32 + (j * ra_it y + i))) (ra_len y)))
    (fun j hj => ra_S_blk (by omega) (by omega) hj) (fun _ =>
    ra_P4 hy pk_us (fun i hi => (ra_blk_in hi).trans (hd1 i hi)) (fun i hi => ra_blk_in hi))
  rw [e] at fin
  refine ra_loop0 (fun m i => wY_prim_700 post (nI sy) (nI t) (nI y.1) (nI (ra_len y)) (nI (ra_it y)) (nI c) fv oa ol ov m (nI i) (upd rk t (nI (y.1 - 1))) (ra_blk dm (t * 3) i (fun i => dm (sy * 3 + 1 + i))) am lx ly lm lfx lfy lfr lp lk lc lf lM) (y.1 - 1) (fun m => ?_) (fun m i hi ih => ?_) (fun m h => ?_)
  · simp only [wY_prim_700, nI_1]
    refine br_t (nI_le (by omega) (by omega)) ?_
    refine ra_loop0 (fun m i => wY_prim_749 post (nI sy) (nI t) (nI (ra_len y)) (nI (ra_it y)) (nI c) fv oa ol ov m (nI i) (upd rk t (nI (y.1 - 1))) (ra_blk dm (t * 3) (y.1 - 1) (fun i => dm (sy * 3 + 1 + i))) (ra_blk am (t * 32) i (fun i => ra_sum (fun j => am (sy * 32 + (j * ra_it y + i))) (ra_len y))) lx ly lm lfx lfy lfr lp lk lc lf lM) (ra_it y) (fun m => ?_) (fun m i hi ih => ?_) (fun m h => ?_)
    · simp only [wY_prim_749]
      exact br_t (nI_le (Nat.le_refl _) (by omega)) fin
    · simp only [wY_prim_749]
      refine br_f (nI_ge hi (by omega)) (br_f (by rw [ra_le32 (by omega)]; omega) ?_)
      refine ra_loop (fun m2 j => wY_prim_769 post (wY_prim_749 post (nI sy) (nI t) (nI (ra_len y)) (nI (ra_it y)) (nI c) fv oa ol ov m) (nI sy) (nI t) (nI (ra_len y)) (nI (ra_it y)) (nI i) (nI c) fv oa ol ov (upd rk t (nI (y.1 - 1))) (ra_blk dm (t * 3) (y.1 - 1) (fun i => dm (sy * 3 + 1 + i))) (ra_blk am (t * 32) i (fun i => ra_sum (fun j => am (sy * 32 + (j * ra_it y + i))) (ra_len y))) lx ly lm lfx lfy lfr lp lk lc lf lM m2 (ra_sum (fun j => am (sy * 32 + (j * ra_it y + i))) j) (nI j)) (ra_len y) (fun m2 => ?_) (fun m2 j hj ih2 => ?_) 0 (Nat.zero_le _)
      · simp (disch := omega) only [wY_prim_769, wY_prim_828, ra_m32, nI_add, nI_clamp, ra_inI, true_and, forall_eq, nI_1]
        refine br_t (nI_le (Nat.le_refl _) (by omega)) ?_
        rw [ra_blk_s rfl]
        exact ih
      · have b1 := ra_part (c := 32) hj (by omega) hi
        simp (disch := omega) only [wY_prim_769, ra_m32, pk_mul, nI_add, nI_clamp, ra_inI, true_and, forall_eq, nI_1]
        refine br_f (nI_ge hj (by omega)) (br_f (by rw [ra_le32 (by omega)]; omega) (br_f (nI_pos (by omega)) (br_f (by rw [ra_le32 (by omega)]; omega) ?_)))
        rw [ra_blk_out (by omega)]
        exact ih2
    · rw [ra_blk_0] at h
      exact h
  · simp (disch := omega) only [wY_prim_700, ra_m3, nI_add, nI_clamp, ra_inI, true_and, forall_eq, nI_1]
    refine br_f (nI_ge (by omega) (by omega)) (br_f (by rw [ra_le2 (by omega)]; omega) ?_)
    rw [ra_blk_out (by omega), ra_blk_s rfl]
    exact ih
  · rw [ra_blk_0] at h
    exact h
end
