/-! the reference: A at the declared ranks, B -/

theorem ym_innerA {post : Int32 → SY → Prop} {c v mon : Nat} {x y : ra_A} {fv oa ol ov : Int32} {rk dm am lx ly lm lfx lfy lfr lp lk lc lf lM : Nat → Int32} (hv : v ≤ 12) (h8 : 8 ≤ c) (hc : c ≤ 32) (wx : ra_W c x) (wy : ra_W c y)
    (hm : mon ≤ 1) (hmv : mon = 0 ↔ 6 ≤ v) (hm0 : mon ≠ 0 → x.1 = 0) (hx0 : mon = 0 → ra_H rk dm am 4 x) (hy0 : ra_H rk dm am 5 y)
    (hp : ∀ rk' dm' am' lx' ly' lm' lfx' lfy' lfr' lp' lk' lc' lf' lM', (∀ N, N < 1 → yv_E N lx ly lm lfx lfy lfr lp lk lc lf lM lx' ly' lm' lfx' lfy' lfr' lp' lk' lc' lf' lM') → (∀ j, yv_Q 1 j → ra_S rk dm am rk' dm' am' j) →
      (ra_BE c fv v x y = 0 → ra_H rk' dm' am' 9 (ra_BA c fv v x y)) → post (ra_BE c fv v x y) (nI c, fv, oa, ol, ov, rk', dm', am', lx', ly', lm', lfx', lfy', lfr', lp', lk', lc', lf', lM')) : wpY_innerA post (nI c, fv, oa, ol, ov, rk, dm, am, lx, ly, lm, lfx, lfy, lfr, lp, lk, lc, lf, lM) (nI v) 4 5 (nI mon) 9 := by
  unfold ra_BE ra_BA at hp
  have x3 := wx.1
  have y3 := wy.1
  have hfit : 1 = 1 → x.1 - (x.1 - ra_eff (nI (ra_dL v)) x.1) ≤ ra_dL v ∧ y.1 - (y.1 - ra_eff (nI (ra_dR v)) y.1) ≤ ra_dR v := fun _ =>
    ⟨ra_fc_fit x3 (by have := ra_dL_1 v; omega), ra_fc_fit y3 (ra_dR_3 v)⟩
  have hfx : x.1 - ra_eff (nI (ra_dL v)) x.1 ≤ x.1 := Nat.sub_le _ _
  have hfy : y.1 - ra_eff (nI (ra_dR v)) y.1 ≤ y.1 := Nat.sub_le _ _
  generalize efx : x.1 - ra_eff (nI (ra_dL v)) x.1 = fx at hp hfit hfx
  generalize efy : y.1 - ra_eff (nI (ra_dR v)) y.1 = fy at hp hfit hfy
  have hsx : 4 < 11 := by decide
  have hsy : 5 < 11 := by decide
  have qx : yv_Q 1 4 := by unfold yv_Q yv_P; omega
  have qy : yv_Q 1 5 := by unfold yv_Q yv_P; omega
  unfold wpY_innerA
  refine ym_drL hv ?_
  intro z6 ez6
  refine ym_drR hv ?_
  refine ym_setup (L := 1) (sx := 4) (sy := 5) (fx := fx) (by decide) hc hsx hsy wx wy hm hx0 hy0 (fun m => by rw [ez6 (hmv.mp m)]; exact efx.symm) (fun m => by have := hm0 m; omega) efy.symm ?_ ?_
  · intro hd rk' dm' am' lx' ly' lm' lfx' lfy' lfr' lp' lk' lc' lf' lM' hE e1 e2 e3
    replace e1 := e1.symm
    replace e2 := e2.symm
    replace e3 := e3.symm
    subst e1 e2 e3
    have e1 := ra_AE_d (c := c) (fl := fv) (E := ra_PE c v) (R := ra_PA fv v) hd
    have := hp _ _ _ _ _ _ _ _ _ _ _ _ _ _ (fun N hN => hE N (Nat.ne_of_lt hN)) (fun _ _ => ra_S_r) (fun z => absurd (e1.symm.trans z) (by decide))
    rw [e1] at this
    exact br_f (by decide) this
  · intro hd rk' dm' am' lx' ly' lm' lfx' lfy' lfr' lp' lk' lc' lf' lM' hV hE e1 e2 e3
    replace e1 := e1.symm
    replace e2 := e2.symm
    replace e3 := e3.symm
    subst e1 e2 e3

    have fr3 := ra_fr_3 wx wy hfx hfy
    have hP := ra_pos_le hc wx wy hfx hfy
    have hokk := ra_P_ok (fl := fv) h8 hc hv
    have hI : yv_I 1 4 5 mon fx fy x y rk dm am lx ly lm lfx lfy lfr lp lk lc lf lM rk dm am lx' ly' lm' lfx' lfy' lfr' lp' lk' lc' lf' lM' := ⟨hV, fun N hN => hE N (Nat.ne_of_lt hN), fun _ _ => ra_S_r⟩
    refine br_t (by decide) ?_
    rw [show lp' 1 = nI (ra_pos x y fx fy) from hV.2.2.2.2.2.2.1, show lfy' 1 = nI fy from hV.2.2.2.2.1]
    by_cases p0 : ra_pos x y fx fy = 0
    · refine br_t (by rw [p0]; rfl) ?_
      refine ym_fillCell (s := 5) (t := 7) hc wy hy0 hsy (by decide) (by unfold yv_Q yv_P at qy; omega) hfy ?_
      intro rk2 dm2 am2 hf2 hS2
      have core : ∀ (fine : Int32) rk3 dm3 am3, (fine = if ra_size x fx ≤ c ∧ ra_size y fy ≤ c then 1 else 0) → (ra_size x fx ≤ c ∧ ra_size y fy ≤ c → (mon = 0 → ra_H rk3 dm3 am3 6 (ra_fc fv x fx)) ∧ ra_H rk3 dm3 am3 7 (ra_fc fv y fy)) →
          (∀ j, j ≠ 6 → j ≠ 7 → ra_S rk dm am rk3 dm3 am3 j) → wY_innerA_79 post (nI v) 9 fine (nI c) fv oa ol ov rk3 dm3 am3 lx' ly' lm' lfx' lfy' lfr' lp' lk' lc' lf' lM' := by
        intro fine rk3 dm3 am3 ef hfc hS3
        have hI3 := yv_I_s (rk2 := rk3) (dm2 := dm3) (am2 := am3) hI (fun j hj => hS3 j (by unfold yv_Q yv_P at hj; omega) (by unfold yv_Q yv_P at hj; omega))
        unfold wY_innerA_79
        by_cases hb : ra_size x fx ≤ c ∧ ra_size y fy ≤ c
        · rw [if_pos hb] at ef
          subst ef
          refine br_f (by decide) ?_
          refine yb_1 (mon := mon) hv h8 hc (ra_fc_W wx hb.1) (ra_fc_W wy hb.2) hfit hm hmv (fun m => by show x.1 - fx = 0; rw [hm0 m]; omega) (hfc hb).1 (hfc hb).2 ?_
          intro z zs rk4 dm4 am4 lx4 ly4 lm4 lfx4 lfy4 lfr4 lp4 lk4 lc4 lf4 lM4 hE4 hS4 hbb
          have hI4 := yv_I_g fr3 hI3 hE4 (fun j hj => hS4 j hj.1)
          rcases hbb with ⟨he, hz11, hzo, hzR, rfl, rfl⟩ | ⟨he, ez⟩
          · have es : ra_S0 c fv (ra_PE c v) (ra_PA fv v) x y fx fy = ra_PA fv v (ra_fc fv x fx) (ra_fc fv y fy) := by
              unfold ra_S0; rw [if_neg (by omega), if_pos he]
            have wz := hokk _ _ (ra_fc_W wx hb.1) (ra_fc_W wy hb.2) he
            refine br_t rfl ?_
            exact yj_1 (zs := 8) (G := (ra_PA fv v (ra_fc fv x fx) (ra_fc fv y fy)).2.1) hv h8 hc wx wy hfx hfy hfit hm hmv hm0 hd hsx hsy qx qy hx0 hy0 hp p0 hI4 (K := (ra_PA fv v (ra_fc fv x fx) (ra_fc fv y fy)).1) (by rw [es]) wz.1 (fun i hi => by rw [es]) (fun _ => ⟨rfl, hz11, hzo, hzR.2.1⟩) (.inr ⟨rfl, hz11, hzR.1⟩)
          · have es : ra_S0 c fv (ra_PE c v) (ra_PA fv v) x y fx fy = ra_sc 0 := by
              unfold ra_S0; rw [if_neg (by omega), if_neg he]
            subst ez
            refine br_f he ?_
            exact yj_1 (zs := 0) (G := fun _ => 0) hv h8 hc wx wy hfx hfy hfit hm hmv hm0 hd hsx hsy qx qy hx0 hy0 hp p0 hI4 (K := 0) (by rw [es]; rfl) (by decide) (fun i hi => absurd hi (Nat.not_lt_zero i)) (fun h => absurd h (Nat.lt_irrefl 0)) (.inl ⟨by decide, rfl⟩)
        · rw [if_neg hb] at ef
          subst ef
          have es : ra_S0 c fv (ra_PE c v) (ra_PA fv v) x y fx fy = ra_sc 0 := by
            unfold ra_S0; rw [if_pos (by omega)]
          refine br_t rfl ?_
          exact yj_1 (zs := 0) (G := fun _ => 0) hv h8 hc wx wy hfx hfy hfit hm hmv hm0 hd hsx hsy qx qy hx0 hy0 hp p0 hI3 (K := 0) (by rw [es]; rfl) (by decide) (fun i hi => absurd hi (Nat.not_lt_zero i)) (fun h => absurd h (Nat.lt_irrefl 0)) (.inl ⟨by decide, rfl⟩)
      by_cases m : mon = 0
      · refine br_t (by rw [m]; rfl) ?_
        dsimp only
        rw [show lfx' 1 = nI fx from hV.2.2.2.1]
        refine ym_fillCell (s := 4) (t := 6) hc wx (ra_H_S (hx0 m) wx hc (hS2 4 (by unfold yv_Q yv_P at qx; omega))) hsx (by decide) (by unfold yv_Q yv_P at qx; omega) hfx ?_
        intro rk3 dm3 am3 hf3 hS3
        have hS23 : ∀ j, j ≠ 6 → j ≠ 7 → ra_S rk dm am rk3 dm3 am3 j := fun j a b => ra_S_t (hS2 j b) (hS3 j a)
        by_cases sx9 : ra_size x fx ≤ c
        · rw [if_pos sx9]
          refine br_f (by decide) (core _ rk3 dm3 am3 ?_ (fun hb => ⟨fun _ => hf3 hb.1, ra_H_S (hf2 hb.2) (ra_fc_W wy hb.2) hc (hS3 _ (by decide))⟩) hS23)
          by_cases sy9 : ra_size y fy ≤ c
          · rw [if_pos sy9, if_pos ⟨sx9, sy9⟩]
          · rw [if_neg sy9, if_neg (fun z => sy9 z.2)]
        · rw [if_neg sx9]
          refine br_t rfl (core _ rk3 dm3 am3 ?_ (fun hb => absurd hb.1 sx9) hS23)
          rw [if_neg (fun z => sx9 z.1)]
      · refine br_f (nI_ne0 (by omega) (by omega)) (core _ rk2 dm2 am2 ?_ (fun hb => ⟨fun z => absurd z m, hf2 hb.2⟩) (fun j _ b => hS2 j b))
        have sx1 : ra_size x fx ≤ c := by
          have : ra_size x fx = 1 := by
            unfold ra_size
            rw [show x.1 - fx = 0 by rw [hm0 m]; omega]; rfl
          omega
        by_cases sy9 : ra_size y fy ≤ c
        · rw [if_pos sy9, if_pos ⟨sx1, sy9⟩]
        · rw [if_neg sy9, if_neg (fun z => sy9 z.2)]
    · have pp : 0 < ra_pos x y fx fy := Nat.pos_of_ne_zero p0
      exact br_f (nI_ne0 pp (by omega)) (yp_1 hv h8 hc wx wy hfx hfy hfit hm hmv hm0 hd hsx hsy qx qy hx0 hy0 hp pp hI)


theorem yb_0 {post : Int32 → SY → Prop} {c v mon : Nat} {x y : ra_A} {fv oa ol ov : Int32} {rk dm am lx ly lm lfx lfy lfr lp lk lc lf lM : Nat → Int32} (hv : v ≤ 12) (h8 : 8 ≤ c) (hc : c ≤ 32) (wx : ra_W c x) (wy : ra_W c y) {fx fy : Nat} {x0 y0 : ra_A} (_ : 0 = 1 → x0.1 - fx ≤ ra_dL v ∧ y0.1 - fy ≤ ra_dR v)
    (hm : mon ≤ 1) (hmv : mon = 0 ↔ 6 ≤ v) (hm0 : mon ≠ 0 → x.1 = 0) (h4 : mon = 0 → ra_H rk dm am 4 x) (h6 : ra_H rk dm am 5 y)
    (hp : ∀ (z : Int32) (zs : Nat) rk2 dm2 am2 lx2 ly2 lm2 lfx2 lfy2 lfr2 lp2 lk2 lc2 lf2 lM2, (∀ N, N ≤ 0 → yv_E N lx ly lm lfx lfy lfr lp lk lc lf lM lx2 ly2 lm2 lfx2 lfy2 lfr2 lp2 lk2 lc2 lf2 lM2) → (∀ j, yv_P 0 j → ra_S rk dm am rk2 dm2 am2 j) →
      ((ra_BE c fv v x y = 0 ∧ zs < 11 ∧ zs ≠ 10 ∧ ra_H rk2 dm2 am2 zs (ra_BA c fv v x y) ∧ z = nI zs) ∨ (ra_BE c fv v x y ≠ 0 ∧ z = ra_BE c fv v x y)) → post z (nI c, fv, oa, ol, ov, rk2, dm2, am2, lx2, ly2, lm2, lfx2, lfy2, lfr2, lp2, lk2, lc2, lf2, lM2)) :
    wpY_evalB post (nI c, fv, oa, ol, ov, rk, dm, am, lx, ly, lm, lfx, lfy, lfr, lp, lk, lc, lf, lM) (nI v) 4 5 (nI mon) := by
  have x3 := wx.1
  have y3 := wy.1
  have d1 := ra_dL_1 v
  have d3 := ra_dR_3 v
  have no : wY_evalB_40 post (nI v) 4 5 (nI mon) (nI c) fv oa ol ov rk dm am lx ly lm lfx lfy lfr lp lk lc lf lM := by
    unfold wY_evalB_40 wY_evalB_41
    refine br_t rfl ?_
    refine ym_innerA hv h8 hc wx wy hm hmv hm0 h4 h6 ?_
    intro rk' dm' am' lx' ly' lm' lfx' lfy' lfr' lp' lk' lc' lf' lM' a b d
    by_cases e : ra_BE c fv v x y = 0
    · refine br_t (by rw [e]; decide) (hp _ 9 _ _ _ _ _ _ _ _ _ _ _ _ _ _ (fun N hN => a N (by omega)) (fun j hj => b j (yv_Q_1.mpr hj)) (.inl ⟨e, by decide, by decide, d e, rfl⟩))
    · exact br_f (Int32.not_le.mpr (ra_BE_n e)) (hp _ 9 _ _ _ _ _ _ _ _ _ _ _ _ _ _ (fun N hN => a N (by omega)) (fun j hj => b j (yv_Q_1.mpr hj)) (.inr ⟨e, rfl⟩))
  have yes : x.1 ≤ ra_dL v → y.1 ≤ ra_dR v → wY_evalB_36 post (nI v) 4 5 (nI mon) (nI c) fv oa ol ov rk dm am lx ly lm lfx lfy lfr lp lk lc lf lM := by
    intro fx1 fy1
    obtain ⟨b1, b2⟩ := ra_B_fit (fl := fv) h8 hc hv wy fx1 fy1
    unfold wY_evalB_36 wY_evalB_41
    refine br_f (by decide) ?_
    refine ym_prim (sx := 4) (sy := 5) (t := 8) hv h8 hc (by decide) (by decide) (by decide) (by decide) (by decide) (fun g => h4 (hmv.mpr g)) h6 wx wy fx1 fy1 ?_
    intro rk' dm' am' a b
    rw [← b1] at b2 b ⊢
    by_cases e : ra_BE c fv v x y = 0
    · exact br_t (by rw [e]; decide) (hp _ 8 rk' dm' am' lx ly lm lfx lfy lfr lp lk lc lf lM (fun _ _ => yv_E_r) (fun j hj => a j hj.1) (.inl ⟨e, by decide, by decide, ra_H_q (b e) (b2 e), rfl⟩))
    · exact br_f (Int32.not_le.mpr (ra_BE_n e)) (hp _ 8 rk' dm' am' lx ly lm lfx lfy lfr lp lk lc lf lM (fun _ _ => yv_E_r) (fun j hj => a j hj.1) (.inr ⟨e, rfl⟩))
  unfold wpY_evalB
  dsimp only
  refine ⟨vp_in_nI (n := 5) (by decide) (by decide), ?_⟩
  refine ym_drR hv ?_
  have k5 : rk (5 : Int32).toNatClampNeg = nI y.1 := h6.1
  rw [k5]
  by_cases g : ra_dR v < y.1
  · exact br_t (nI_lt g (by omega)) no
  · refine br_f (nI_nlt (by omega) (by omega)) ?_
    by_cases m : mon = 0
    · have k4 : rk (4 : Int32).toNatClampNeg = nI x.1 := (h4 m).1
      refine br_f (by rw [m]; decide) ⟨vp_in_nI (n := 4) (by decide) (by decide), ?_⟩
      refine ym_drL hv ?_
      intro z6 ez6
      rw [ez6 (hmv.mp m), k4]
      by_cases g4 : ra_dL v < x.1
      · exact br_t (nI_lt g4 (by omega)) no
      · exact br_f (nI_nlt (by omega) (by omega)) (yes (by omega) (by omega))
    · have m1 : mon = 1 := by omega
      exact br_t (by rw [m1]; rfl) (yes (by rw [hm0 m]; omega) (by omega))
