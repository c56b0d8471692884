/-! the owed statements: monad, dyad -/
section
variable {post : Int32 → SX → Prop} {c v sx sy dst : Nat} {x y : ra_A} {fv oa ol ov : Int32} {rk dm am xs ys xf yf fs fr wr wd : Nat → Int32}
theorem xm_monad (hv : v ≤ 5) (h8 : 8 ≤ c) (hc : c ≤ 32) (wy : ra_W c y) (hsy : sy < 4) (hds : dst < 4) (hx0 : ra_H rk dm am 11 (ra_sc 0)) (hy0 : ra_H rk dm am sy y)
    (hp0 : ra_OE c fv v (ra_sc 0) y 0 (if oa = 0 then nI (ra_dR v) else ov) ≠ 0 → ∀ rk' dm' am' xs' ys' xf' yf' fs' fr' wr' wd', (∀ j, j < 4 ∨ j = 11 → ra_S rk dm am rk' dm' am' j) → post (ra_OE c fv v (ra_sc 0) y 0 (if oa = 0 then nI (ra_dR v) else ov)) (nI c, fv, oa, ol, ov, rk', dm', am', xs', ys', xf', yf', fs', fr', wr', wd'))
    (hp1 : ra_OE c fv v (ra_sc 0) y 0 (if oa = 0 then nI (ra_dR v) else ov) = 0 → ∀ rk' dm' am' xs' ys' xf' yf' fs' fr' wr' wd', ra_H rk' dm' am' dst (ra_OA c fv v (ra_sc 0) y 0 (if oa = 0 then nI (ra_dR v) else ov)) → (∀ j, j < 4 ∨ j = 11 → j ≠ dst → ra_S rk dm am rk' dm' am' j) → post (nI (ra_cnt (ra_OA c fv v (ra_sc 0) y 0 (if oa = 0 then nI (ra_dR v) else ov)))) (nI c, fv, oa, ol, ov, rk', dm', am', xs', ys', xf', yf', fs', fr', wr', wd')) : wpX_monad post (nI c, fv, oa, ol, ov, rk, dm, am, xs, ys, xf, yf, fs, fr, wr, wd) (nI v) (nI sy) (nI dst) := by
  unfold wpX_monad
  refine xm_mon1 hv (br_f (by decide) (xm_reg1 hsy (br_f (by decide) (xm_reg1 hds (br_f (by decide) ?_)))))
  unfold wX_monad_46
  by_cases o : oa = 0
  · rw [if_pos o] at hp0 hp1
    refine br_t o (xm_rightRank (by omega) ?_)
    exact xm_call (sx := 11) (by omega) h8 hc (ra_sc_W (by omega) 0) wy (.inr rfl) hsy hds hx0 hy0 hp0 hp1
  · rw [if_neg o] at hp0 hp1
    refine br_f o ?_
    exact xm_call (sx := 11) (by omega) h8 hc (ra_sc_W (by omega) 0) wy (.inr rfl) hsy hds hx0 hy0 hp0 hp1
theorem xm_dyad (h6 : 6 ≤ v) (hv : v ≤ 12) (h8 : 8 ≤ c) (hc : c ≤ 32) (wx : ra_W c x) (wy : ra_W c y) (hsx : sx < 4) (hsy : sy < 4) (hds : dst < 4) (hx0 : ra_H rk dm am sx x) (hy0 : ra_H rk dm am sy y)
    (hp0 : ra_OE c fv v x y (if oa = 0 then nI (ra_dL v) else ol) (if oa = 0 then nI (ra_dR v) else ov) ≠ 0 → ∀ rk' dm' am' xs' ys' xf' yf' fs' fr' wr' wd', (∀ j, j < 4 ∨ j = 11 → ra_S rk dm am rk' dm' am' j) → post (ra_OE c fv v x y (if oa = 0 then nI (ra_dL v) else ol) (if oa = 0 then nI (ra_dR v) else ov)) (nI c, fv, oa, ol, ov, rk', dm', am', xs', ys', xf', yf', fs', fr', wr', wd'))
    (hp1 : ra_OE c fv v x y (if oa = 0 then nI (ra_dL v) else ol) (if oa = 0 then nI (ra_dR v) else ov) = 0 → ∀ rk' dm' am' xs' ys' xf' yf' fs' fr' wr' wd', ra_H rk' dm' am' dst (ra_OA c fv v x y (if oa = 0 then nI (ra_dL v) else ol) (if oa = 0 then nI (ra_dR v) else ov)) → (∀ j, j < 4 ∨ j = 11 → j ≠ dst → ra_S rk dm am rk' dm' am' j) → post (nI (ra_cnt (ra_OA c fv v x y (if oa = 0 then nI (ra_dL v) else ol) (if oa = 0 then nI (ra_dR v) else ov)))) (nI c, fv, oa, ol, ov, rk', dm', am', xs', ys', xf', yf', fs', fr', wr', wd')) : wpX_dyad post (nI c, fv, oa, ol, ov, rk, dm, am, xs, ys, xf, yf, fs, fr, wr, wd) (nI v) (nI sx) (nI sy) (nI dst) := by
  unfold wpX_dyad
  refine xm_dy1 h6 hv (br_f (by decide) (xm_reg1 hsx (br_f (by decide) (xm_reg1 hsy (br_f (by decide) (xm_reg1 hds (br_f (by decide) ?_)))))))
  unfold wX_dyad_55 wX_dyad_76
  by_cases o : oa = 0
  · rw [if_pos o, if_pos o] at hp0 hp1
    refine br_t o (xm_leftRank hv (br_t o (xm_rightRank hv ?_)))
    exact xm_call hv h8 hc wx wy (.inl hsx) hsy hds hx0 hy0 hp0 hp1
  · rw [if_neg o, if_neg o] at hp0 hp1
    refine br_f o (br_f o ?_)
    exact xm_call hv h8 hc wx wy (.inl hsx) hsy hds hx0 hy0 hp0 hp1
end
section
variable {post : Int32 → SY → Prop} {c v sx sy dst : Nat} {x y : ra_A} {fv oa ol ov : Int32} {rk dm am lx ly lm lfx lfy lfr lp lk lc lf lM : Nat → Int32}
theorem ym_monad (hv : v ≤ 5) (h8 : 8 ≤ c) (hc : c ≤ 32) (wy : ra_W c y) (hsy : sy < 4) (hds : dst < 4) (hy0 : ra_H rk dm am sy y)
    (hp0 : ra_OE c fv v (ra_sc 0) y 0 (if oa = 0 then nI (ra_dR v) else ov) ≠ 0 → ∀ rk' dm' am' lx' ly' lm' lfx' lfy' lfr' lp' lk' lc' lf' lM', (∀ j, j < 4 → ra_S rk dm am rk' dm' am' j) → post (ra_OE c fv v (ra_sc 0) y 0 (if oa = 0 then nI (ra_dR v) else ov)) (nI c, fv, oa, ol, ov, rk', dm', am', lx', ly', lm', lfx', lfy', lfr', lp', lk', lc', lf', lM'))
    (hp1 : ra_OE c fv v (ra_sc 0) y 0 (if oa = 0 then nI (ra_dR v) else ov) = 0 → ∀ rk' dm' am' lx' ly' lm' lfx' lfy' lfr' lp' lk' lc' lf' lM', ra_H rk' dm' am' dst (ra_OA c fv v (ra_sc 0) y 0 (if oa = 0 then nI (ra_dR v) else ov)) → (∀ j, j < 4 → j ≠ dst → ra_S rk dm am rk' dm' am' j) → post (nI (ra_cnt (ra_OA c fv v (ra_sc 0) y 0 (if oa = 0 then nI (ra_dR v) else ov)))) (nI c, fv, oa, ol, ov, rk', dm', am', lx', ly', lm', lfx', lfy', lfr', lp', lk', lc', lf', lM')) : wpY_monad post (nI c, fv, oa, ol, ov, rk, dm, am, lx, ly, lm, lfx, lfy, lfr, lp, lk, lc, lf, lM) (nI v) (nI sy) (nI dst) := by
  unfold wpY_monad
  refine br_f (nI_pos (by omega)) (br_t (nI_le (b := 5) hv (by decide)) (ym_ok1 hsy (br_f (by decide) (ym_ok1 hds (br_f (by decide) ?_)))))
  unfold wY_monad_51
  by_cases o : oa = 0
  · rw [if_pos o] at hp0 hp1
    refine br_t o (ym_drR (by omega) ?_)
    exact ym_call (mon := 1) (by omega) h8 hc (ra_sc_W (by omega) 0) wy (by decide) (by omega) (fun _ => rfl) hsy hsy hds (fun z => absurd z (by decide)) hy0 hp0 hp1
  · rw [if_neg o] at hp0 hp1
    refine br_f o ?_
    exact ym_call (mon := 1) (by omega) h8 hc (ra_sc_W (by omega) 0) wy (by decide) (by omega) (fun _ => rfl) hsy hsy hds (fun z => absurd z (by decide)) hy0 hp0 hp1
theorem ym_dyad (h6 : 6 ≤ v) (hv : v ≤ 12) (h8 : 8 ≤ c) (hc : c ≤ 32) (wx : ra_W c x) (wy : ra_W c y) (hsx : sx < 4) (hsy : sy < 4) (hds : dst < 4) (hx0 : ra_H rk dm am sx x) (hy0 : ra_H rk dm am sy y)
    (hp0 : ra_OE c fv v x y (if oa = 0 then nI (ra_dL v) else ol) (if oa = 0 then nI (ra_dR v) else ov) ≠ 0 → ∀ rk' dm' am' lx' ly' lm' lfx' lfy' lfr' lp' lk' lc' lf' lM', (∀ j, j < 4 → ra_S rk dm am rk' dm' am' j) → post (ra_OE c fv v x y (if oa = 0 then nI (ra_dL v) else ol) (if oa = 0 then nI (ra_dR v) else ov)) (nI c, fv, oa, ol, ov, rk', dm', am', lx', ly', lm', lfx', lfy', lfr', lp', lk', lc', lf', lM'))
    (hp1 : ra_OE c fv v x y (if oa = 0 then nI (ra_dL v) else ol) (if oa = 0 then nI (ra_dR v) else ov) = 0 → ∀ rk' dm' am' lx' ly' lm' lfx' lfy' lfr' lp' lk' lc' lf' lM', ra_H rk' dm' am' dst (ra_OA c fv v x y (if oa = 0 then nI (ra_dL v) else ol) (if oa = 0 then nI (ra_dR v) else ov)) → (∀ j, j < 4 → j ≠ dst → ra_S rk dm am rk' dm' am' j) → post (nI (ra_cnt (ra_OA c fv v x y (if oa = 0 then nI (ra_dL v) else ol) (if oa = 0 then nI (ra_dR v) else ov)))) (nI c, fv, oa, ol, ov, rk', dm', am', lx', ly', lm', lfx', lfy', lfr', lp', lk', lc', lf', lM')) : wpY_dyad post (nI c, fv, oa, ol, ov, rk, dm, am, lx, ly, lm, lfx, lfy, lfr, lp, lk, lc, lf, lM) (nI v) (nI sx) (nI sy) (nI dst) := by
  unfold wpY_dyad
  refine br_f (nI_nlt (b := 6) h6 (by omega)) (br_t (nI_le (b := 12) hv (by decide)) (ym_ok1 hsx (br_f (by decide) (ym_ok1 hsy (br_f (by decide) (ym_ok1 hds (br_f (by decide) ?_)))))))
  unfold wY_dyad_63 wY_dyad_85
  by_cases o : oa = 0
  · rw [if_pos o, if_pos o] at hp0 hp1
    refine br_t o (ym_drL hv ?_)
    intro z ez
    rw [ez h6]
    refine br_t o (ym_drR hv ?_)
    exact ym_call (mon := 0) hv h8 hc wx wy (by decide) (by omega) (fun z => absurd rfl z) hsx hsy hds (fun _ => hx0) hy0 hp0 hp1
  · rw [if_neg o, if_neg o] at hp0 hp1
    refine br_f o (br_f o ?_)
    exact ym_call (mon := 0) hv h8 hc wx wy (by decide) (by omega) (fun z => absurd rfl z) hsx hsy hds (fun _ => hx0) hy0 hp0 hp1
end
theorem i_vc_monad {k : Nat} {u : SX} {v : SY} (I : i_Rel k u v) (hk : k + 5 ≤ 2561) (v1 : Int32) (v2 : Int32) (v3 : Int32) : wpX_monad (fun r u' => wpY_monad (fun r' v' => r' = r ∧ i_Rel (k + 5) u' v') v v1 v2 v3) u v1 v2 v3 := by
  obtain ⟨c, fv, oa, ol, ov, rk, dm, am, xs, ys, xf, yf, fs, fr, wr, wd, rk', dm', am', lx', ly', lm', lfx', lfy', lfr', lp', lk', lc', lf', lM', -, h8, hc, rfl, rfl, hR⟩ := I

  have bad : (v1 < 0 ∨ 5 < v1) → wpX_monad (fun r u' => wpY_monad (fun r' v' => r' = r ∧ i_Rel (k + 5) u' v') (nI c, fv, oa, ol, ov, rk', dm', am', lx', ly', lm', lfx', lfy', lfr', lp', lk', lc', lf', lM') v1 v2 v3) (nI c, fv, oa, ol, ov, rk, dm, am, xs, ys, xf, yf, fs, fr, wr, wd) v1 v2 v3 := by
    intro h
    unfold wpX_monad wpY_monad
    refine xm_mon0 h (br_t rfl ?_)
    by_cases n : v1 < 0
    · exact br_t n ⟨rfl, iv_mk h8 hc hR⟩
    · exact br_f n (br_f (Int32.not_le.mpr (h.resolve_left n)) ⟨rfl, iv_mk h8 hc hR⟩)
  rcases iv_verb v1 with ⟨v, hv, rfl⟩ | ⟨v, h6, hv, rfl⟩ | h
  · have n0 : ¬ nI v < 0 := nI_pos (by omega)
    have n5 : nI v ≤ 5 := nI_le (b := 5) hv (by decide)
    rcases iv_reg v2 with h | ⟨sy, hsy, rfl⟩
    · unfold wpX_monad wpY_monad
      exact xm_mon1 hv (br_f (by decide) (xm_reg0 h (br_t rfl (br_f n0 (br_t n5 (ym_ok0 h (br_t rfl ⟨rfl, iv_mk h8 hc hR⟩)))))))
    rcases iv_reg v3 with h | ⟨d, hd, rfl⟩
    · unfold wpX_monad wpY_monad
      exact xm_mon1 hv (br_f (by decide) (xm_reg1 hsy (br_f (by decide) (xm_reg0 h (br_t rfl (br_f n0 (br_t n5 (ym_ok1 hsy (br_f (by decide) (ym_ok0 h (br_t rfl ⟨rfl, iv_mk h8 hc hR⟩)))))))))))
    obtain ⟨y, wy, hx, hy⟩ := hR.1 sy hsy
    refine xm_monad hv h8 hc wy hsy hd hR.2 hx ?_ ?_
    · intro e rk2 dm2 am2 xs2 ys2 xf2 yf2 fs2 fr2 wr2 wd2 sX
      refine ym_monad hv h8 hc wy hsy hd hy ?_ (fun z => absurd z e)
      intro _ rk3 dm3 am3 lx3 ly3 lm3 lfx3 lfy3 lfr3 lp3 lk3 lc3 lf3 lM3 sY
      exact ⟨rfl, iv_mk h8 hc (iv_keep hc (by omega) hR sX sY)⟩
    · intro e rk2 dm2 am2 xs2 ys2 xf2 yf2 fs2 fr2 wr2 wd2 hX2 sX
      refine ym_monad hv h8 hc wy hsy hd hy (fun z => absurd e z) ?_
      intro _ rk3 dm3 am3 lx3 ly3 lm3 lfx3 lfy3 lfr3 lp3 lk3 lc3 lf3 lM3 hY3 sY
      have wR : ra_W c (ra_OA c fv v (ra_sc 0) y 0 (if oa = 0 then nI (ra_dR v) else ov)) := ra_A_W (by omega) (ra_B_ok h8 hc (by omega)) (ra_sc_W (by omega) 0) wy (Nat.sub_le _ _) (Nat.sub_le _ _) e
      exact ⟨rfl, iv_mk h8 hc (iv_put hc (by omega) hR hd wR hX2 hY3 sX sY)⟩
  · exact bad (.inr (nI_lt (a := 5) (by omega) (by omega)))
  · exact bad (h.imp id (fun z => Int32.lt_trans (by decide) z))
theorem i_vc_dyad {k : Nat} {u : SX} {v : SY} (I : i_Rel k u v) (hk : k + 5 ≤ 2561) (v1 : Int32) (v2 : Int32) (v3 : Int32) (v4 : Int32) : wpX_dyad (fun r u' => wpY_dyad (fun r' v' => r' = r ∧ i_Rel (k + 5) u' v') v v1 v2 v3 v4) u v1 v2 v3 v4 := by
  obtain ⟨c, fv, oa, ol, ov, rk, dm, am, xs, ys, xf, yf, fs, fr, wr, wd, rk', dm', am', lx', ly', lm', lfx', lfy', lfr', lp', lk', lc', lf', lM', -, h8, hc, rfl, rfl, hR⟩ := I

  have bad : (v1 < 6 ∨ 12 < v1) → wpX_dyad (fun r u' => wpY_dyad (fun r' v' => r' = r ∧ i_Rel (k + 5) u' v') (nI c, fv, oa, ol, ov, rk', dm', am', lx', ly', lm', lfx', lfy', lfr', lp', lk', lc', lf', lM') v1 v2 v3 v4) (nI c, fv, oa, ol, ov, rk, dm, am, xs, ys, xf, yf, fs, fr, wr, wd) v1 v2 v3 v4 := by
    intro h
    unfold wpX_dyad wpY_dyad
    refine xm_dy0 h (br_t rfl ?_)
    by_cases n : v1 < 6
    · exact br_t n ⟨rfl, iv_mk h8 hc hR⟩
    · exact br_f n (br_f (Int32.not_le.mpr (h.resolve_left n)) ⟨rfl, iv_mk h8 hc hR⟩)
  rcases iv_verb v1 with ⟨v, hv, rfl⟩ | ⟨v, h6, hv, rfl⟩ | h
  · exact bad (.inl (nI_lt (b := 6) (by omega) (by decide)))
  · have n6 : ¬ nI v < 6 := nI_nlt (b := 6) h6 (by omega)
    have n12 : nI v ≤ 12 := nI_le (b := 12) hv (by decide)
    rcases iv_reg v2 with h | ⟨sx, hsx, rfl⟩
    · unfold wpX_dyad wpY_dyad
      exact xm_dy1 h6 hv (br_f (by decide) (xm_reg0 h (br_t rfl (br_f n6 (br_t n12 (ym_ok0 h (br_t rfl ⟨rfl, iv_mk h8 hc hR⟩)))))))
    rcases iv_reg v3 with h | ⟨sy, hsy, rfl⟩
    · unfold wpX_dyad wpY_dyad
      exact xm_dy1 h6 hv (br_f (by decide) (xm_reg1 hsx (br_f (by decide) (xm_reg0 h (br_t rfl (br_f n6 (br_t n12 (ym_ok1 hsx (br_f (by decide) (ym_ok0 h (br_t rfl ⟨rfl, iv_mk h8 hc hR⟩)))))))))))
    rcases iv_reg v4 with h | ⟨d, hd, rfl⟩
    · unfold wpX_dyad wpY_dyad
      exact xm_dy1 h6 hv (br_f (by decide) (xm_reg1 hsx (br_f (by decide) (xm_reg1 hsy (br_f (by decide) (xm_reg0 h (br_t rfl (br_f n6 (br_t n12 (ym_ok1 hsx (br_f (by decide) (ym_ok1 hsy (br_f (by decide) (ym_ok0 h (br_t rfl ⟨rfl, iv_mk h8 hc hR⟩)))))))))))))))
    obtain ⟨x, wx, ax, ay⟩ := hR.1 sx hsx
    obtain ⟨y, wy, hx, hy⟩ := hR.1 sy hsy
    refine xm_dyad h6 hv h8 hc wx wy hsx hsy hd ax hx ?_ ?_
    · intro e rk2 dm2 am2 xs2 ys2 xf2 yf2 fs2 fr2 wr2 wd2 sX
      refine ym_dyad h6 hv h8 hc wx wy hsx hsy hd ay hy ?_ (fun z => absurd z e)
      intro _ rk3 dm3 am3 lx3 ly3 lm3 lfx3 lfy3 lfr3 lp3 lk3 lc3 lf3 lM3 sY
      exact ⟨rfl, iv_mk h8 hc (iv_keep hc (by omega) hR sX sY)⟩
    · intro e rk2 dm2 am2 xs2 ys2 xf2 yf2 fs2 fr2 wr2 wd2 hX2 sX
      refine ym_dyad h6 hv h8 hc wx wy hsx hsy hd ay hy (fun z => absurd e z) ?_
      intro _ rk3 dm3 am3 lx3 ly3 lm3 lfx3 lfy3 lfr3 lp3 lk3 lc3 lf3 lM3 hY3 sY
      have wR : ra_W c (ra_OA c fv v x y (if oa = 0 then nI (ra_dL v) else ol) (if oa = 0 then nI (ra_dR v) else ov)) := ra_A_W (by omega) (ra_B_ok h8 hc hv) wx wy (Nat.sub_le _ _) (Nat.sub_le _ _) e
      exact ⟨rfl, iv_mk h8 hc (iv_put hc (by omega) hR hd wR hX2 hY3 sX sY)⟩
  · exact bad (h.imp (fun z => Int32.lt_trans z (by decide)) id)
