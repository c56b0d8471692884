/-! the calls that apply: each side against the picture -/
section
variable {c : Nat} {fv oa ol ov : Int32} {rk dm am xs ys xf yf fs fr wr wd : Nat → Int32}
theorem xm_reg1 {post : Int32 → Prop} {s : Nat} (hs : s < 4) (hp : post 1) : wpX_isRegister post (nI c, fv, oa, ol, ov, rk, dm, am, xs, ys, xf, yf, fs, fr, wr, wd) (nI s) :=
  xm_isRegister (fun z => by
    rcases z with z | z
    · exact absurd z (nI_pos (by omega))
    · exact absurd ((ra_le4 (by omega)).mp z) (by omega)) (fun _ _ _ => hp)
theorem xm_reg0 {post : Int32 → Prop} {p : Int32} (h : p < 0 ∨ 4 ≤ p) (hp : post 0) : wpX_isRegister post (nI c, fv, oa, ol, ov, rk, dm, am, xs, ys, xf, yf, fs, fr, wr, wd) p :=
  xm_isRegister (fun _ => hp) (fun s hs e => by
    subst e
    rcases h with z | z
    · exact absurd z (nI_pos (by omega))
    · exact absurd ((ra_le4 (by omega)).mp z) (by omega))
theorem xm_call {post : Int32 → SX → Prop} {v sx sy dst : Nat} {x y : ra_A} {l r : Int32} (hv : v ≤ 12) (h8 : 8 ≤ c) (hc : c ≤ 32) (wx : ra_W c x) (wy : ra_W c y)
    (hsx : sx < 4 ∨ sx = 11) (hsy : sy < 4) (hds : dst < 4) (hx0 : ra_H rk dm am sx x) (hy0 : ra_H rk dm am sy y)
    (hp0 : ra_OE c fv v x y l r ≠ 0 → ∀ rk' dm' am' xs' ys' xf' yf' fs' fr' wr' wd', (∀ j, j < 4 ∨ j = 11 → ra_S rk dm am rk' dm' am' j) → post (ra_OE c fv v x y l r) (nI c, fv, oa, ol, ov, rk', dm', am', xs', ys', xf', yf', fs', fr', wr', wd'))
    (hp1 : ra_OE c fv v x y l r = 0 → ∀ rk' dm' am' xs' ys' xf' yf' fs' fr' wr' wd', ra_H rk' dm' am' dst (ra_OA c fv v x y l r) → (∀ j, j < 4 ∨ j = 11 → j ≠ dst → ra_S rk dm am rk' dm' am' j) → post (nI (ra_cnt (ra_OA c fv v x y l r))) (nI c, fv, oa, ol, ov, rk', dm', am', xs', ys', xf', yf', fs', fr', wr', wd')) :
    wpX_applyOuter (fun r u => match u with | (cp9, fv9, oa9, ol9, ov9, rk9, dm9, am9, xs9, ys9, xf9, yf9, fs9, fr9, wr9, wd9) => wpX_keepResult post (cp9, fv9, oa9, ol9, ov9, rk9, dm9, am9, xs9, ys9, xf9, yf9, fs9, fr9, wr9, wd9) r (nI dst)) (nI c, fv, oa, ol, ov, rk, dm, am, xs, ys, xf, yf, fs, fr, wr, wd) (nI v) (nI sx) (nI sy) l r := by
  refine xm_applyOuter hv h8 hc wx wy (by omega) (by omega) (by unfold xv_Q xv_P; omega) (by unfold xv_Q xv_P; omega) hx0 hy0 ?_
  intro rk' dm' am' xs' ys' xf' yf' fs' fr' wr' wd' _ hS hR
  have hS' : ∀ j, j < 4 ∨ j = 11 → ra_S rk dm am rk' dm' am' j := fun j hj => hS j (by unfold xv_Q xv_P; omega)
  show wpX_keepResult post (nI c, fv, oa, ol, ov, rk', dm', am', xs', ys', xf', yf', fs', fr', wr', wd') _ (nI dst)
  unfold wpX_keepResult
  by_cases e : ra_OE c fv v x y l r = 0
  · refine br_t e ?_
    have wR : ra_W c (ra_OA c fv v x y l r) := ra_A_W (by omega) (ra_B_ok h8 hc hv) wx wy (Nat.sub_le _ _) (Nat.sub_le _ _) e
    refine xm_copyCell (s := 8) (f := 0) (p := 0) (t := dst) (a := ra_OA c fv v x y l r) hc wR (hR e) (by decide) (by omega) (by omega) (Nat.zero_le _) (by show 0 < 1; decide) ?_
    intro rk2 dm2 am2 h2 hS2
    rw [ra_cell_0] at h2
    dsimp only
    rw [nI_clamp (by omega), h2.1]
    refine ⟨vp_in_nI (by omega) (by decide), ?_⟩
    refine xm_product (f := 0) (d := (ra_OA c fv v x y l r).2.1) (by omega) (by decide) wR.1 (fun i _ hi => h2.2.1 i hi) ?_
    exact hp1 e _ _ _ _ _ _ _ _ _ _ _ h2 (fun j hj hd => ra_S_t (hS' j hj) (hS2 j hd))
  · exact br_f e (hp0 e _ _ _ _ _ _ _ _ _ _ _ hS')
end
section
variable {c : Nat} {fv oa ol ov : Int32} {rk dm am lx ly lm lfx lfy lfr lp lk lc lf lM : Nat → Int32}
theorem ym_ok1 {post : Int32 → Prop} {s : Nat} (hs : s < 4) (hp : post 1) : wpY_ok post (nI c, fv, oa, ol, ov, rk, dm, am, lx, ly, lm, lfx, lfy, lfr, lp, lk, lc, lf, lM) (nI s) :=
  ym_ok (fun z => by
    rcases z with z | z
    · exact absurd z (nI_pos (by omega))
    · exact absurd ((ra_le4 (by omega)).mp z) (by omega)) (fun _ _ _ => hp)
theorem ym_ok0 {post : Int32 → Prop} {p : Int32} (h : p < 0 ∨ 4 ≤ p) (hp : post 0) : wpY_ok post (nI c, fv, oa, ol, ov, rk, dm, am, lx, ly, lm, lfx, lfy, lfr, lp, lk, lc, lf, lM) p :=
  ym_ok (fun _ => hp) (fun s hs e => by
    subst e
    rcases h with z | z
    · exact absurd z (nI_pos (by omega))
    · exact absurd ((ra_le4 (by omega)).mp z) (by omega))
theorem ym_call {post : Int32 → SY → Prop} {v sx sy dst mon : Nat} {x y : ra_A} {l r : Int32} (hv : v ≤ 12) (h8 : 8 ≤ c) (hc : c ≤ 32) (wx : ra_W c x) (wy : ra_W c y)
    (hm : mon ≤ 1) (hmv : mon = 0 ↔ 6 ≤ v) (hm0 : mon ≠ 0 → x.1 = 0)
    (hsx : sx < 4) (hsy : sy < 4) (hds : dst < 4) (hx0 : mon = 0 → ra_H rk dm am sx x) (hy0 : ra_H rk dm am sy y)
    (hp0 : ra_OE c fv v x y l r ≠ 0 → ∀ rk' dm' am' lx' ly' lm' lfx' lfy' lfr' lp' lk' lc' lf' lM', (∀ j, j < 4 → ra_S rk dm am rk' dm' am' j) → post (ra_OE c fv v x y l r) (nI c, fv, oa, ol, ov, rk', dm', am', lx', ly', lm', lfx', lfy', lfr', lp', lk', lc', lf', lM'))
    (hp1 : ra_OE c fv v x y l r = 0 → ∀ rk' dm' am' lx' ly' lm' lfx' lfy' lfr' lp' lk' lc' lf' lM', ra_H rk' dm' am' dst (ra_OA c fv v x y l r) → (∀ j, j < 4 → j ≠ dst → ra_S rk dm am rk' dm' am' j) → post (nI (ra_cnt (ra_OA c fv v x y l r))) (nI c, fv, oa, ol, ov, rk', dm', am', lx', ly', lm', lfx', lfy', lfr', lp', lk', lc', lf', lM')) :
    wpY_outerA (fun r u => match u with | (cp9, fv9, oa9, ol9, ov9, rk9, dm9, am9, lx9, ly9, lm9, lfx9, lfy9, lfr9, lp9, lk9, lc9, lf9, lM9) => (0 ≤ r → wpY_copySlot (fun u => match u with | (cp8, fv8, oa8, ol8, ov8, rk8, dm8, am8, lx8, ly8, lm8, lfx8, lfy8, lfr8, lp8, lk8, lc8, lf8, lM8) => wpY_cnt (fun r8 => post r8 (cp8, fv8, oa8, ol8, ov8, rk8, dm8, am8, lx8, ly8, lm8, lfx8, lfy8, lfr8, lp8, lk8, lc8, lf8, lM8)) (cp8, fv8, oa8, ol8, ov8, rk8, dm8, am8, lx8, ly8, lm8, lfx8, lfy8, lfr8, lp8, lk8, lc8, lf8, lM8) (nI dst)) (cp9, fv9, oa9, ol9, ov9, rk9, dm9, am9, lx9, ly9, lm9, lfx9, lfy9, lfr9, lp9, lk9, lc9, lf9, lM9) 10 (nI dst)) ∧ (¬ 0 ≤ r → post r (cp9, fv9, oa9, ol9, ov9, rk9, dm9, am9, lx9, ly9, lm9, lfx9, lfy9, lfr9, lp9, lk9, lc9, lf9, lM9))) (nI c, fv, oa, ol, ov, rk, dm, am, lx, ly, lm, lfx, lfy, lfr, lp, lk, lc, lf, lM) (nI v) (nI sx) (nI sy) l r (nI mon) := by
  refine ym_outerA hv h8 hc wx wy hm hmv hm0 (by omega) (by omega) (by unfold yv_Q yv_P; omega) (by unfold yv_Q yv_P; omega) hx0 hy0 ?_
  intro rk' dm' am' lx' ly' lm' lfx' lfy' lfr' lp' lk' lc' lf' lM' _ hS hR
  have hS' : ∀ j, j < 4 → ra_S rk dm am rk' dm' am' j := fun j hj => hS j (by unfold yv_Q yv_P; omega)
  by_cases e : ra_OE c fv v x y l r = 0
  · refine br_t (by rw [e]; decide) ?_
    have wR : ra_W c (ra_OA c fv v x y l r) := ra_A_W (by omega) (ra_B_ok h8 hc hv) wx wy (Nat.sub_le _ _) (Nat.sub_le _ _) e
    have h10 := hR e
    have r3 := wR.1
    have rc := wR.2.2
    refine ym_copySlot (s := 10) (t := dst) (by decide) (by omega) (by omega) ?_
    have hN : ra_H (upd rk' dst (rk' 10)) (ra_blk dm' (dst * 3) 3 (fun i => dm' (10 * 3 + i))) (ra_blk am' (dst * 32) 32 (fun i => am' (10 * 32 + i))) dst (ra_OA c fv v x y l r) :=
      ⟨pk_us.trans h10.1, fun i hi => (ra_blk_in (by omega)).trans (h10.2.1 i hi), fun i hi => (ra_blk_in (by omega)).trans (h10.2.2 i hi)⟩
    refine ym_cnt (d := (ra_OA c fv v x y l r).2.1) (by omega) r3 hN.1 hN.2.1 ?_
    exact hp1 e _ _ _ _ _ _ _ _ _ _ _ _ _ _ hN (fun j hj hd => ra_S_t (hS' j hj) (ra_S_blk (Nat.le_refl _) (Nat.le_refl _) hd))
  · exact br_f (Int32.not_le.mpr (ra_OE_n e)) (hp0 e _ _ _ _ _ _ _ _ _ _ _ _ _ _ hS')
end
