/-! the owed statements: the calls that read and write one register -/
section
variable {c : Nat} {fv oa ol ov : Int32} {rk dm am xs ys xf yf fs fr wr wd : Nat → Int32}
theorem xm_has0 {post : Int32 → Prop} {p q : Int32} (h : p < 0 ∨ 4 ≤ p) (hp : post 0) : wpX_hasAtom post (nI c, fv, oa, ol, ov, rk, dm, am, xs, ys, xf, yf, fs, fr, wr, wd) p q := by
  unfold wpX_hasAtom
  exact xm_reg0 h (br_t rfl hp)
theorem xm_hasn {post : Int32 → Prop} {s : Nat} {q : Int32} (hs : s < 4) (h : q < 0) (hp : post 0) : wpX_hasAtom post (nI c, fv, oa, ol, ov, rk, dm, am, xs, ys, xf, yf, fs, fr, wr, wd) (nI s) q := by
  unfold wpX_hasAtom
  exact xm_reg1 hs (br_f (by decide) (br_t h hp))
theorem xm_has {post : Int32 → Prop} {s j : Nat} {a : ra_A} (hc : c ≤ 32) (hs : s < 4) (wa : ra_W c a) (ha : ra_H rk dm am s a) (hj : j < 2 ^ 31) (h0 : ra_cnt a ≤ j → post 0) (h1 : j < ra_cnt a → post 1) : wpX_hasAtom post (nI c, fv, oa, ol, ov, rk, dm, am, xs, ys, xf, yf, fs, fr, wr, wd) (nI s) (nI j) := by
  have cc := wa.2.2
  unfold wpX_hasAtom
  refine xm_reg1 hs (br_f (by decide) (br_f (nI_pos hj) ?_))
  rw [nI_clamp (by omega), ha.1]
  refine ⟨vp_in_nI (by omega) (by decide), ?_⟩
  refine xm_product (f := 0) (d := a.2.1) (by omega) (by decide) wa.1 (fun i _ hi => ha.2.1 i hi) ?_
  show (nI (ra_cnt a) ≤ nI j → _) ∧ _
  by_cases g : ra_cnt a ≤ j
  · exact br_t (nI_le g hj) (h0 g)
  · exact br_f (nI_ge (by omega) (by omega)) (h1 (by omega))
end
theorem i_vc_scalar {k : Nat} {u : SX} {v : SY} (I : i_Rel k u v) (hk : k + 5 ≤ 2561) (v1 : Int32) (v2 : Int32) : wpX_scalar (fun r u' => wpY_scalar (fun r' v' => r' = r ∧ i_Rel (k + 5) u' v') v v1 v2) u v1 v2 := by
  obtain ⟨c, fv, oa, ol, ov, rk, dm, am, xs, ys, xf, yf, fs, fr, wr, wd, rk', dm', am', lx', ly', lm', lfx', lfy', lfr', lp', lk', lc', lf', lM', -, h8, hc, rfl, rfl, hR⟩ := I

  unfold wpX_scalar wpY_scalar
  rcases iv_reg v1 with h | ⟨s, hs, rfl⟩
  · exact xm_reg0 h (br_t rfl (ym_ok0 h (br_t rfl ⟨rfl, iv_mk h8 hc hR⟩)))
  · refine xm_reg1 hs (br_f (by decide) ?_)
    simp (disch := omega) only [ra_m32, nI_clamp, ra_inI, true_and, forall_eq]
    refine ym_ok1 hs (br_f (by decide) ?_)
    exact iv_mk h8 hc (iv_put hc (by omega) hR hs (ra_sc_W (by omega) v2) ra_H_sc ra_H_sc (fun j _ hj => ra_S_sc hj) (fun j _ hj => ra_S_sc hj))
theorem i_vc_set {k : Nat} {u : SX} {v : SY} (I : i_Rel k u v) (hk : k + 5 ≤ 2561) (v1 : Int32) (v2 : Int32) (v3 : Int32) : wpX_set (fun r u' => wpY_set (fun r' v' => r' = r ∧ i_Rel (k + 5) u' v') v v1 v2 v3) u v1 v2 v3 := by
  obtain ⟨c, fv, oa, ol, ov, rk, dm, am, xs, ys, xf, yf, fs, fr, wr, wd, rk', dm', am', lx', ly', lm', lfx', lfy', lfr', lp', lk', lc', lf', lM', -, h8, hc, rfl, rfl, hR⟩ := I

  unfold wpX_set wpY_set
  rcases iv_reg v1 with h | ⟨s, hs, rfl⟩
  · exact xm_has0 h (br_t rfl (ym_ok0 h (br_t rfl ⟨rfl, iv_mk h8 hc hR⟩)))
  · by_cases n : v2 < 0
    · exact xm_hasn hs n (br_t rfl (ym_ok1 hs (br_f (by decide) (br_t n ⟨rfl, iv_mk h8 hc hR⟩))))
    · obtain ⟨j, hj, rfl⟩ := nI_of n
      obtain ⟨a, wa, hx, hy⟩ := hR.1 s hs
      have cc := wa.2.2
      refine xm_has hc hs wa hx hj (fun g => br_t rfl ?_) (fun g => br_f (by decide) ?_)
      · refine ym_ok1 hs (br_f (by decide) (br_f n ?_))
        refine ym_cnt (by omega) wa.1 hy.1 hy.2.1 ?_
        exact br_t (show nI (ra_cnt a) ≤ nI j from nI_le g hj) ⟨rfl, iv_mk h8 hc hR⟩
      · simp (disch := omega) only [ra_m32, nI_add, nI_clamp, ra_inI, true_and, forall_eq]
        refine ym_ok1 hs (br_f (by decide) (br_f n ?_))
        refine ym_cnt (by omega) wa.1 hy.1 hy.2.1 ?_
        refine br_f (show ¬ nI (ra_cnt a) ≤ nI j from nI_ge g (by omega)) (br_t (by rw [ra_lt32 (by omega)]; omega) (iv_mk h8 hc ?_))
        refine iv_put (a := (a.1, a.2.1, fun i => if i = j then v3 else a.2.2 i)) hc (by omega) hR hs wa ⟨hx.1, hx.2.1, fun i hi => ?_⟩ ⟨hy.1, hy.2.1, fun i hi => ?_⟩ (fun q _ hq => ⟨rfl, fun _ _ => rfl, fun i hi => pk_un (by omega)⟩) (fun q _ hq => ⟨rfl, fun _ _ => rfl, fun i hi => pk_un (by omega)⟩)
        · show upd am (s * 32 + j) v3 (s * 32 + i) = if i = j then v3 else a.2.2 i
          by_cases e : i = j
          · subst e; rw [pk_us, if_pos rfl]
          · rw [pk_un (by omega), if_neg e]; exact hx.2.2 i hi
        · show upd am' (s * 32 + j) v3 (s * 32 + i) = if i = j then v3 else a.2.2 i
          by_cases e : i = j
          · subst e; rw [pk_us, if_pos rfl]
          · rw [pk_un (by omega), if_neg e]; exact hy.2.2 i hi
theorem i_vc_setFill {k : Nat} {u : SX} {v : SY} (I : i_Rel k u v) (hk : k + 5 ≤ 2561) (v1 : Int32) : wpX_setFill (fun u' => wpY_setFill (fun v' => i_Rel (k + 5) u' v') v v1) u v1 := by
  obtain ⟨c, fv, oa, ol, ov, rk, dm, am, xs, ys, xf, yf, fs, fr, wr, wd, rk', dm', am', lx', ly', lm', lfx', lfy', lfr', lp', lk', lc', lf', lM', -, h8, hc, rfl, rfl, hR⟩ := I

  exact iv_mk h8 hc hR
theorem i_vc_setRank {k : Nat} {u : SX} {v : SY} (I : i_Rel k u v) (hk : k + 5 ≤ 2561) (v1 : Int32) (v2 : Int32) : wpX_setRank (fun u' => wpY_setRank (fun v' => i_Rel (k + 5) u' v') v v1 v2) u v1 v2 := by
  obtain ⟨c, fv, oa, ol, ov, rk, dm, am, xs, ys, xf, yf, fs, fr, wr, wd, rk', dm', am', lx', ly', lm', lfx', lfy', lfr', lp', lk', lc', lf', lM', -, h8, hc, rfl, rfl, hR⟩ := I

  exact iv_mk h8 hc hR
theorem i_vc_clearRank {k : Nat} {u : SX} {v : SY} (I : i_Rel k u v) (hk : k + 5 ≤ 2561) : wpX_clearRank (fun u' => wpY_clearRank (fun v' => i_Rel (k + 5) u' v') v) u := by
  obtain ⟨c, fv, oa, ol, ov, rk, dm, am, xs, ys, xf, yf, fs, fr, wr, wd, rk', dm', am', lx', ly', lm', lfx', lfy', lfr', lp', lk', lc', lf', lM', -, h8, hc, rfl, rfl, hR⟩ := I

  exact iv_mk h8 hc hR
theorem i_vc_rank {k : Nat} {u : SX} {v : SY} (I : i_Rel k u v) (hk : k + 5 ≤ 2561) (v1 : Int32) : wpX_rank (fun r => wpY_rank (fun r' => r' = r ∧ i_Rel (k + 5) u v) v v1) u v1 := by
  obtain ⟨c, fv, oa, ol, ov, rk, dm, am, xs, ys, xf, yf, fs, fr, wr, wd, rk', dm', am', lx', ly', lm', lfx', lfy', lfr', lp', lk', lc', lf', lM', -, h8, hc, rfl, rfl, hR⟩ := I

  unfold wpX_rank wpY_rank
  rcases iv_reg v1 with h | ⟨s, hs, rfl⟩
  · exact xm_reg0 h (br_t rfl (ym_ok0 h (br_t rfl ⟨rfl, iv_mk h8 hc hR⟩)))
  · obtain ⟨a, wa, hx, hy⟩ := hR.1 s hs
    refine xm_reg1 hs (br_f (by decide) ⟨vp_in_nI (by omega) (by decide), ?_⟩)
    refine ym_ok1 hs (br_f (by decide) ⟨vp_in_nI (by omega) (by decide), ?_, iv_mk h8 hc hR⟩)
    rw [nI_clamp (by omega), hx.1, hy.1]
theorem i_vc_dim {k : Nat} {u : SX} {v : SY} (I : i_Rel k u v) (hk : k + 5 ≤ 2561) (v1 : Int32) (v2 : Int32) : wpX_dim (fun r => wpY_dim (fun r' => r' = r ∧ i_Rel (k + 5) u v) v v1 v2) u v1 v2 := by
  obtain ⟨c, fv, oa, ol, ov, rk, dm, am, xs, ys, xf, yf, fs, fr, wr, wd, rk', dm', am', lx', ly', lm', lfx', lfy', lfr', lp', lk', lc', lf', lM', -, h8, hc, rfl, rfl, hR⟩ := I

  unfold wpX_dim wpY_dim
  rcases iv_reg v1 with h | ⟨s, hs, rfl⟩
  · exact xm_reg0 h (br_t rfl (ym_ok0 h (br_t rfl ⟨rfl, iv_mk h8 hc hR⟩)))
  · by_cases n : v2 < 0
    · exact xm_reg1 hs (br_f (by decide) (br_t n (ym_ok1 hs (br_f (by decide) (br_t n ⟨rfl, iv_mk h8 hc hR⟩)))))
    · obtain ⟨j, hj, rfl⟩ := nI_of n
      obtain ⟨a, wa, hx, hy⟩ := hR.1 s hs
      have a3 := wa.1
      refine xm_reg1 hs (br_f (by decide) (br_f n ⟨vp_in_nI (by omega) (by decide), ?_⟩))
      rw [nI_clamp (by omega), hx.1]
      by_cases g : j < a.1
      · refine br_t (nI_lt g (by omega)) ?_
        rw [ra_m3, nI_add, nI_clamp (by omega), hx.2.1 j g]
        refine ⟨vp_in_nI (by omega) (by decide), ?_⟩
        refine ym_ok1 hs (br_f (by decide) (br_f n ⟨vp_in_nI (by omega) (by decide), ?_⟩))
        rw [hy.1]
        refine br_f (nI_ge g (by omega)) (br_t (by rw [ra_lt3 (by omega)]; omega) ?_)
        rw [hy.2.1 j g]
        exact ⟨vp_in_nI (by omega) (by decide), rfl, iv_mk h8 hc hR⟩
      · refine br_f (nI_nlt (by omega) hj) ?_
        refine ym_ok1 hs (br_f (by decide) (br_f n ⟨vp_in_nI (by omega) (by decide), ?_⟩))
        rw [hy.1]
        exact br_t (nI_le (by omega) hj) ⟨rfl, iv_mk h8 hc hR⟩
theorem i_vc_count {k : Nat} {u : SX} {v : SY} (I : i_Rel k u v) (hk : k + 5 ≤ 2561) (v1 : Int32) : wpX_count (fun r => wpY_count (fun r' => r' = r ∧ i_Rel (k + 5) u v) v v1) u v1 := by
  obtain ⟨c, fv, oa, ol, ov, rk, dm, am, xs, ys, xf, yf, fs, fr, wr, wd, rk', dm', am', lx', ly', lm', lfx', lfy', lfr', lp', lk', lc', lf', lM', -, h8, hc, rfl, rfl, hR⟩ := I

  unfold wpX_count wpY_count
  rcases iv_reg v1 with h | ⟨s, hs, rfl⟩
  · exact xm_reg0 h (br_t rfl (ym_ok0 h (br_t rfl ⟨rfl, iv_mk h8 hc hR⟩)))
  · obtain ⟨a, wa, hx, hy⟩ := hR.1 s hs
    refine xm_reg1 hs (br_f (by decide) ⟨vp_in_nI (by omega) (by decide), ?_⟩)
    rw [nI_clamp (by omega), hx.1]
    refine xm_product (f := 0) (d := a.2.1) (by omega) (by decide) wa.1 (fun i _ hi => hx.2.1 i hi) ?_
    refine ym_ok1 hs (br_f (by decide) ?_)
    refine ym_cnt (by omega) wa.1 hy.1 hy.2.1 ?_
    exact ⟨rfl, iv_mk h8 hc hR⟩
theorem i_vc_atom {k : Nat} {u : SX} {v : SY} (I : i_Rel k u v) (hk : k + 5 ≤ 2561) (v1 : Int32) (v2 : Int32) : wpX_atom (fun r => wpY_atom (fun r' => r' = r ∧ i_Rel (k + 5) u v) v v1 v2) u v1 v2 := by
  obtain ⟨c, fv, oa, ol, ov, rk, dm, am, xs, ys, xf, yf, fs, fr, wr, wd, rk', dm', am', lx', ly', lm', lfx', lfy', lfr', lp', lk', lc', lf', lM', -, h8, hc, rfl, rfl, hR⟩ := I

  unfold wpX_atom wpY_atom
  rcases iv_reg v1 with h | ⟨s, hs, rfl⟩
  · exact xm_has0 h (br_t rfl (ym_ok0 h (br_t rfl ⟨rfl, iv_mk h8 hc hR⟩)))
  · by_cases n : v2 < 0
    · exact xm_hasn hs n (br_t rfl (ym_ok1 hs (br_f (by decide) (br_t n ⟨rfl, iv_mk h8 hc hR⟩))))
    · obtain ⟨j, hj, rfl⟩ := nI_of n
      obtain ⟨a, wa, hx, hy⟩ := hR.1 s hs
      have cc := wa.2.2
      refine xm_has hc hs wa hx hj (fun g => br_t rfl ?_) (fun g => br_f (by decide) ?_)
      · refine ym_ok1 hs (br_f (by decide) (br_f n ?_))
        refine ym_cnt (by omega) wa.1 hy.1 hy.2.1 ?_
        exact br_t (show nI (ra_cnt a) ≤ nI j from nI_le g hj) ⟨rfl, iv_mk h8 hc hR⟩
      · simp (disch := omega) only [ra_m32, nI_add, nI_clamp, ra_inI, true_and]
        refine ym_ok1 hs (br_f (by decide) (br_f n ?_))
        refine ym_cnt (by omega) wa.1 hy.1 hy.2.1 ?_
        refine br_f (show ¬ nI (ra_cnt a) ≤ nI j from nI_ge g (by omega)) (br_t (by rw [ra_lt32 (by omega)]; omega) ⟨?_, iv_mk h8 hc hR⟩)
        rw [hx.2.2 j g, hy.2.2 j g]
theorem i_vc_fill {k : Nat} {u : SX} {v : SY} (I : i_Rel k u v) (hk : k + 5 ≤ 2561) : wpX_fill (fun r => wpY_fill (fun r' => r' = r ∧ i_Rel (k + 5) u v) v) u := by
  obtain ⟨c, fv, oa, ol, ov, rk, dm, am, xs, ys, xf, yf, fs, fr, wr, wd, rk', dm', am', lx', ly', lm', lfx', lfy', lfr', lp', lk', lc', lf', lM', -, h8, hc, rfl, rfl, hR⟩ := I

  exact ⟨rfl, iv_mk h8 hc hR⟩
theorem i_vc_rankSetting {k : Nat} {u : SX} {v : SY} (I : i_Rel k u v) (hk : k + 5 ≤ 2561) (v1 : Int32) : wpX_rankSetting (fun r => wpY_rankSetting (fun r' => r' = r ∧ i_Rel (k + 5) u v) v v1) u v1 := by
  obtain ⟨c, fv, oa, ol, ov, rk, dm, am, xs, ys, xf, yf, fs, fr, wr, wd, rk', dm', am', lx', ly', lm', lfx', lfy', lfr', lp', lk', lc', lf', lM', -, h8, hc, rfl, rfl, hR⟩ := I

  unfold wpX_rankSetting wpY_rankSetting
  by_cases e0 : v1 = 0
  · subst e0
    refine br_f (by decide) (br_f (by decide) (br_t rfl ?_))
    by_cases o : oa = 0
    · exact br_t o (br_t rfl (br_t o ⟨rfl, iv_mk h8 hc hR⟩))
    · exact br_f o (br_t rfl (br_f o ⟨rfl, iv_mk h8 hc hR⟩))
  by_cases e1 : v1 = 1
  · subst e1
    exact br_f (by decide) (br_f (by decide) (br_f (by decide) (br_t rfl (br_f (by decide) (br_t rfl ⟨rfl, iv_mk h8 hc hR⟩)))))
  by_cases e2 : v1 = 2
  · subst e2
    exact br_f (by decide) (br_f (by decide) (br_f (by decide) (br_f (by decide) (br_t rfl (br_f (by decide) (br_f (by decide) (br_t rfl ⟨rfl, iv_mk h8 hc hR⟩)))))))
  by_cases n : v1 < 0
  · exact br_t n (br_f e0 (br_f e1 (br_f e2 ⟨rfl, iv_mk h8 hc hR⟩)))
  · refine br_f n (br_t ?_ (br_f e0 (br_f e1 (br_f e2 ⟨rfl, iv_mk h8 hc hR⟩))))
    obtain ⟨j, hj, rfl⟩ := nI_of n
    refine (nI_ltI (a := 2) (by decide) hj).mpr ?_
    have f0 : j ≠ 0 := fun z => e0 (by rw [z]; rfl)
    have f1 : j ≠ 1 := fun z => e1 (by rw [z]; rfl)
    have f2 : j ≠ 2 := fun z => e2 (by rw [z]; rfl)
    omega
