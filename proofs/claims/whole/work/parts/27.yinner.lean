/-! the reference: A -/
def yv_P (L j : Nat) : Prop := j ≠ 8 ∧ (L = 0 → j ≠ 6 ∧ j ≠ 7 ∧ j ≠ 9)
def yv_Q (L j : Nat) : Prop := yv_P L j ∧ (L = 1 → j ≠ 6 ∧ j ≠ 7 ∧ j ≠ 9) ∧ (L = 0 → j ≠ 4 ∧ j ≠ 5 ∧ j ≠ 10)
theorem yv_Q_1 {j : Nat} : yv_Q 1 j ↔ yv_P 0 j := by unfold yv_Q yv_P; omega
def yv_I (L sx sy mon fx fy : Nat) (x y : ra_A) (rk0 dm0 am0 lx0 ly0 lm0 lfx0 lfy0 lfr0 lp0 lk0 lc0 lf0 lM0 rk dm am lx ly lm lfx lfy lfr lp lk lc lf lM : Nat → Int32) : Prop :=
  yv_V lx ly lm lfx lfy lfr lp lf L sx sy mon fx fy (ra_F x y fx fy) (ra_pos x y fx fy) ∧ (∀ N, N < L → yv_E N lx0 ly0 lm0 lfx0 lfy0 lfr0 lp0 lk0 lc0 lf0 lM0 lx ly lm lfx lfy lfr lp lk lc lf lM) ∧ ∀ j, yv_Q L j → ra_S rk0 dm0 am0 rk dm am j
theorem yv_I_g {L sx sy mon fx fy : Nat} {x y : ra_A} {rk0 dm0 am0 lx0 ly0 lm0 lfx0 lfy0 lfr0 lp0 lk0 lc0 lf0 lM0 rk dm am lx ly lm lfx lfy lfr lp lk lc lf lM rk2 dm2 am2 lx2 ly2 lm2 lfx2 lfy2 lfr2 lp2 lk2 lc2 lf2 lM2 : Nat → Int32} (h3 : ra_fr fx fy ≤ 3) (h : yv_I L sx sy mon fx fy x y rk0 dm0 am0 lx0 ly0 lm0 lfx0 lfy0 lfr0 lp0 lk0 lc0 lf0 lM0 rk dm am lx ly lm lfx lfy lfr lp lk lc lf lM)
    (e : ∀ N, N ≤ L → yv_E N lx ly lm lfx lfy lfr lp lk lc lf lM lx2 ly2 lm2 lfx2 lfy2 lfr2 lp2 lk2 lc2 lf2 lM2) (s : ∀ j, yv_Q L j → ra_S rk dm am rk2 dm2 am2 j) : yv_I L sx sy mon fx fy x y rk0 dm0 am0 lx0 ly0 lm0 lfx0 lfy0 lfr0 lp0 lk0 lc0 lf0 lM0 rk2 dm2 am2 lx2 ly2 lm2 lfx2 lfy2 lfr2 lp2 lk2 lc2 lf2 lM2 :=
  ⟨yv_V_E h3 (e L (Nat.le_refl L)) h.1, fun N hN => yv_E_t (h.2.1 N hN) (e N (Nat.le_of_lt hN)), fun j hj => ra_S_t (h.2.2 j hj) (s j hj)⟩
theorem yv_I_s {L sx sy mon fx fy : Nat} {x y : ra_A} {rk0 dm0 am0 lx0 ly0 lm0 lfx0 lfy0 lfr0 lp0 lk0 lc0 lf0 lM0 rk dm am lx ly lm lfx lfy lfr lp lk lc lf lM rk2 dm2 am2 : Nat → Int32} (h : yv_I L sx sy mon fx fy x y rk0 dm0 am0 lx0 ly0 lm0 lfx0 lfy0 lfr0 lp0 lk0 lc0 lf0 lM0 rk dm am lx ly lm lfx lfy lfr lp lk lc lf lM)
    (s : ∀ j, yv_Q L j → ra_S rk dm am rk2 dm2 am2 j) : yv_I L sx sy mon fx fy x y rk0 dm0 am0 lx0 ly0 lm0 lfx0 lfy0 lfr0 lp0 lk0 lc0 lf0 lM0 rk2 dm2 am2 lx ly lm lfx lfy lfr lp lk lc lf lM :=
  ⟨h.1, h.2.1, fun j hj => ra_S_t (h.2.2 j hj) (s j hj)⟩
theorem yv_I_k {L sx sy mon fx fy : Nat} {x y : ra_A} {rk0 dm0 am0 lx0 ly0 lm0 lfx0 lfy0 lfr0 lp0 lk0 lc0 lf0 lM0 rk dm am lx ly lm lfx lfy lfr lp lk lc lf lM lk2 lc2 lM2 : Nat → Int32} (h : yv_I L sx sy mon fx fy x y rk0 dm0 am0 lx0 ly0 lm0 lfx0 lfy0 lfr0 lp0 lk0 lc0 lf0 lM0 rk dm am lx ly lm lfx lfy lfr lp lk lc lf lM)
    (e : ∀ N, N ≠ L → lk2 N = lk N ∧ lc2 N = lc N ∧ ∀ i, i < 3 → lM2 (N * 3 + i) = lM (N * 3 + i)) : yv_I L sx sy mon fx fy x y rk0 dm0 am0 lx0 ly0 lm0 lfx0 lfy0 lfr0 lp0 lk0 lc0 lf0 lM0 rk dm am lx ly lm lfx lfy lfr lp lk2 lc2 lf lM2 :=
  ⟨h.1, fun N hN => yv_E_t (h.2.1 N hN) ⟨rfl, rfl, rfl, rfl, rfl, rfl, rfl, (e N (Nat.ne_of_lt hN)).1, (e N (Nat.ne_of_lt hN)).2.1, fun _ _ => rfl, (e N (Nat.ne_of_lt hN)).2.2⟩, h.2.2⟩
theorem yv_E_k {L K : Nat} {lx ly lm lfx lfy lfr lp lk lc lf lM lx' ly' lm' lfx' lfy' lfr' lp' lk' lc' lf' lM' : Nat → Int32} (h : yv_E L lx ly lm lfx lfy lfr lp lk lc lf lM lx' ly' lm' lfx' lfy' lfr' lp' lk' lc' lf' lM') : lk' L = lk L ∧ lc' L = lc L ∧ ∀ i, i < 3 → lM' (L * 3 + i) = lM (L * 3 + i) := by
  obtain ⟨a1, a2, a3, a4, a5, a6, a7, a8, a9, a10, a11⟩ := h
  exact ⟨a8, a9, a11⟩

theorem yb_1 {post : Int32 → SY → Prop} {c v mon : Nat} {x y : ra_A} {fv oa ol ov : Int32} {rk dm am lx ly lm lfx lfy lfr lp lk lc lf lM : Nat → Int32} (hv : v ≤ 12) (h8 : 8 ≤ c) (hc : c ≤ 32) (wx : ra_W c x) (wy : ra_W c y) (hfit : 1 = 1 → x.1 ≤ ra_dL v ∧ y.1 ≤ ra_dR v)
    (hm : mon ≤ 1) (hmv : mon = 0 ↔ 6 ≤ v) (hm0 : mon ≠ 0 → x.1 = 0) (h4 : mon = 0 → ra_H rk dm am 6 x) (h6 : ra_H rk dm am 7 y)
    (hp : ∀ (z : Int32) (zs : Nat) rk2 dm2 am2 lx2 ly2 lm2 lfx2 lfy2 lfr2 lp2 lk2 lc2 lf2 lM2, (∀ N, N ≤ 1 → yv_E N lx ly lm lfx lfy lfr lp lk lc lf lM lx2 ly2 lm2 lfx2 lfy2 lfr2 lp2 lk2 lc2 lf2 lM2) → (∀ j, yv_P 1 j → ra_S rk dm am rk2 dm2 am2 j) →
      ((ra_PE c v x y = 0 ∧ zs < 11 ∧ zs ≠ 9 ∧ ra_H rk2 dm2 am2 zs (ra_PA fv v x y) ∧ zs = 8 ∧ z = 0) ∨ (ra_PE c v x y ≠ 0 ∧ z = ra_PE c v x y)) → post z (nI c, fv, oa, ol, ov, rk2, dm2, am2, lx2, ly2, lm2, lfx2, lfy2, lfr2, lp2, lk2, lc2, lf2, lM2)) :
    wpY_prim post (nI c, fv, oa, ol, ov, rk, dm, am, lx, ly, lm, lfx, lfy, lfr, lp, lk, lc, lf, lM) (nI v) 6 7 8 := by
  refine ym_prim (sx := 6) (sy := 7) (t := 8) hv h8 hc (by decide) (by decide) (by decide) (by decide) (by decide) (fun g => h4 (hmv.mpr g)) h6 wx wy (hfit rfl).1 (hfit rfl).2 ?_
  intro rk' dm' am' a b
  refine hp _ 8 rk' dm' am' lx ly lm lfx lfy lfr lp lk lc lf lM (fun _ _ => yv_E_r) (fun j hj => a j hj.1) ?_
  by_cases e : ra_PE c v x y = 0
  · exact .inl ⟨e, by decide, by decide, b e, rfl, e⟩
  · exact .inr ⟨e, rfl⟩
theorem yl0_1 {post : Int32 → SY → Prop} {c v fx fy sx sy mon : Nat} {x y : ra_A} {fv oa ol ov : Int32} {rk0 dm0 am0 lx0 ly0 lm0 lfx0 lfy0 lfr0 lp0 lk0 lc0 lf0 lM0 : Nat → Int32} {J : Int32 → Int32 → Int32 → Int32 → Int32 → Int32 → (Nat → Int32) → (Nat → Int32) → (Nat → Int32) → (Nat → Int32) → (Nat → Int32) → (Nat → Int32) → (Nat → Int32) → (Nat → Int32) → (Nat → Int32) → (Nat → Int32) → (Nat → Int32) → (Nat → Int32) → (Nat → Int32) → (Nat → Int32) → Prop}
    (hv : v ≤ 12) (h8 : 8 ≤ c) (hc : c ≤ 32) (wx : ra_W c x) (wy : ra_W c y) (hfx : fx ≤ x.1) (hfy : fy ≤ y.1) (hfit : 1 = 1 → x.1 - fx ≤ ra_dL v ∧ y.1 - fy ≤ ra_dR v)
    (hm : mon ≤ 1) (hmv : mon = 0 ↔ 6 ≤ v) (hm0 : mon ≠ 0 → x.1 = 0)
    (hd : ra_dis x y (if fx < fy then fx else fy) = false)
    (hsx : sx < 11) (hsy : sy < 11) (qx : yv_Q 1 sx) (qy : yv_Q 1 sy) (hx0 : mon = 0 → ra_H rk0 dm0 am0 sx x) (hy0 : ra_H rk0 dm0 am0 sy y)
    (hp : ∀ rk' dm' am' lx' ly' lm' lfx' lfy' lfr' lp' lk' lc' lf' lM', (∀ N, N < 1 → yv_E N lx0 ly0 lm0 lfx0 lfy0 lfr0 lp0 lk0 lc0 lf0 lM0 lx' ly' lm' lfx' lfy' lfr' lp' lk' lc' lf' lM') → (∀ j, yv_Q 1 j → ra_S rk0 dm0 am0 rk' dm' am' j) →
      (ra_AE c fv (ra_PE c v) (ra_PA fv v) x y fx fy = 0 → ra_H rk' dm' am' 9 (ra_AA c fv (ra_PE c v) (ra_PA fv v) x y fx fy)) → post (ra_AE c fv (ra_PE c v) (ra_PA fv v) x y fx fy) (nI c, fv, oa, ol, ov, rk', dm', am', lx', ly', lm', lfx', lfy', lfr', lp', lk', lc', lf', lM'))

    (hJ : ∀ rk dm am lx ly lm lfx lfy lfr lp lk lc lf lM, yv_I 1 sx sy mon fx fy x y rk0 dm0 am0 lx0 ly0 lm0 lfx0 lfy0 lfr0 lp0 lk0 lc0 lf0 lM0 rk dm am lx ly lm lfx lfy lfr lp lk lc lf lM → lk 1 = nI (ra_K (ra_PA fv v) x y fx fy (ra_pos x y fx fy)) → (∀ i, i < ra_pos x y fx fy → ra_PE c v (ra_cx x y fx fy i) (ra_cy x y fx fy i) = 0) → J (nI 1) (nI c) fv oa ol ov rk dm am lx ly lm lfx lfy lfr lp lk lc lf lM) :
    ∀ k q, q + k = ra_pos x y fx fy → ∀ n rk dm am lx ly lm lfx lfy lfr lp lk lc lf lM, yv_I 1 sx sy mon fx fy x y rk0 dm0 am0 lx0 ly0 lm0 lfx0 lfy0 lfr0 lp0 lk0 lc0 lf0 lM0 rk dm am lx ly lm lfx lfy lfr lp lk lc lf lM → lk 1 = nI (ra_K (ra_PA fv v) x y fx fy q) → (∀ i, i < q → ra_PE c v (ra_cx x y fx fy i) (ra_cy x y fx fy i) = 0) →
    wY_innerA_146 post J (nI v) (nI 9) (nI 0) (n + k + 1) (nI q) (nI c) fv oa ol ov rk dm am lx ly lm lfx lfy lfr lp lk lc lf lM := by
  have hokk := ra_P_ok (fl := fv) h8 hc hv
  have hP := ra_pos_le hc wx wy hfx hfy
  have fr3 := ra_fr_3 wx wy hfx hfy
  have zW : ∀ q, q < ra_pos x y fx fy → ra_PE c v (ra_cx x y fx fy q) (ra_cy x y fx fy q) = 0 → ra_W c (ra_PA fv v (ra_cx x y fx fy q) (ra_cy x y fx fy q)) := fun q hq =>
    hokk _ _ (ra_cx_W wx hfx hd hq) (ra_cy_W wy hfy hd hq)
  intro k
  induction k with
  | zero =>
    intro q hq n rk dm am lx ly lm lfx lfy lfr lp lk lc lf lM hI hK hz
    have hq' : q = ra_pos x y fx fy := by omega
    rw [hq'] at hK hz
    have hlp : lp 1 = nI (ra_pos x y fx fy) := hI.1.2.2.2.2.2.2.1
    rw [wY_innerA_146]
    exact br_t (show lp 1 ≤ nI q by rw [hlp]; exact nI_le (by omega) (by omega)) (nm_r (nI_1 0) (hJ rk dm am lx ly lm lfx lfy lfr lp lk lc lf lM hI hK hz))
  | succ k ih =>
    intro q hq n rk dm am lx ly lm lfx lfy lfr lp lk lc lf lM hI hK hz
    have hq' : q < ra_pos x y fx fy := by omega
    have hx : mon = 0 → ra_H rk dm am sx x := fun m => ra_H_S (hx0 m) wx hc (hI.2.2 sx qx)
    have hy := ra_H_S hy0 wy hc (hI.2.2 sy qy)
    have hlp : lp 1 = nI (ra_pos x y fx fy) := hI.1.2.2.2.2.2.2.1
    rw [wY_innerA_146]
    refine br_f (show ¬ lp 1 ≤ nI q by rw [hlp]; exact nI_ge hq' (by omega)) ?_
    refine ym_extract (L := 1) (dx := 6) (dy := 7) (by decide) hc hm hI.1 hx hy wx wy hfx hfy hd hq' hsx hsy (by decide) (by decide) (by unfold yv_Q yv_P at qx; omega) (by unfold yv_Q yv_P at qy; omega) (by unfold yv_Q yv_P at qy; omega) (by decide) ?_
    intro rk1 dm1 am1 h4 h6 hS1
    refine yb_1 hv h8 hc (ra_cx_W wx hfx hd hq') (ra_cy_W wy hfy hd hq') hfit hm hmv (fun m => by show x.1 - fx = 0; rw [hm0 m]; omega) h4 h6 ?_
    intro z zs rk2 dm2 am2 lx2 ly2 lm2 lfx2 lfy2 lfr2 lp2 lk2 lc2 lf2 lM2 hE2 hS2 hb
    have hI2 : yv_I 1 sx sy mon fx fy x y rk0 dm0 am0 lx0 ly0 lm0 lfx0 lfy0 lfr0 lp0 lk0 lc0 lf0 lM0 rk2 dm2 am2 lx2 ly2 lm2 lfx2 lfy2 lfr2 lp2 lk2 lc2 lf2 lM2 := yv_I_g fr3 (yv_I_s hI (fun j hj => hS1 j (by unfold yv_Q yv_P at hj; omega) (by unfold yv_Q yv_P at hj; omega))) hE2 (fun j hj => hS2 j hj.1)
    have hK2 := ((yv_E_k (K := 0) (hE2 1 (Nat.le_refl _))).1).trans hK
    rcases hb with ⟨he, hz11, hzo, hzR, rfl, rfl⟩ | ⟨he, ez⟩
    · refine br_t (by decide) ?_
      have zw := zW q hq' he
      have k3 : ra_K (ra_PA fv v) x y fx fy q ≤ 3 := ra_max_le _ fun i hi => (zW i (by omega) (hz i hi)).1
      refine ym_absorb0 (L := 1) (by decide) hz11 k3 zw.1 hK2 hzR ?_
      intro lk3 hk3 ho3
      refine nm_r (nI_1 q) ?_
      refine ih (q + 1) (by omega) n _ _ _ _ _ _ _ _ _ _ _ _ _ _ (yv_I_k hI2 (fun N hN => ⟨ho3 N hN, rfl, fun _ _ => rfl⟩)) hk3 (fun i hi => ?_)
      by_cases zz : i = q
      · subst zz; exact he
      · exact hz i (by omega)
    · subst ez
      refine br_f (Int32.not_le.mpr (ra_PE_n he)) ?_
      have e1 := ra_AE_e (c := c) (fl := fv) (E := ra_PE c v) (R := ra_PA fv v) hd hq' hz he
      have := hp _ _ _ _ _ _ _ _ _ _ _ _ _ _ hI2.2.1 hI2.2.2 (fun z => absurd (e1.symm.trans z) he)
      rw [e1] at this
      exact this
theorem yl1_1 {post : Int32 → SY → Prop} {c v fx fy sx sy mon : Nat} {x y : ra_A} {fv oa ol ov : Int32} {rk0 dm0 am0 lx0 ly0 lm0 lfx0 lfy0 lfr0 lp0 lk0 lc0 lf0 lM0 : Nat → Int32} {J : Int32 → Int32 → Int32 → Int32 → Int32 → Int32 → (Nat → Int32) → (Nat → Int32) → (Nat → Int32) → (Nat → Int32) → (Nat → Int32) → (Nat → Int32) → (Nat → Int32) → (Nat → Int32) → (Nat → Int32) → (Nat → Int32) → (Nat → Int32) → (Nat → Int32) → (Nat → Int32) → (Nat → Int32) → Prop} {K : Nat}
    (hv : v ≤ 12) (h8 : 8 ≤ c) (hc : c ≤ 32) (wx : ra_W c x) (wy : ra_W c y) (hfx : fx ≤ x.1) (hfy : fy ≤ y.1) (hfit : 1 = 1 → x.1 - fx ≤ ra_dL v ∧ y.1 - fy ≤ ra_dR v)
    (hm : mon ≤ 1) (hmv : mon = 0 ↔ 6 ≤ v) (hm0 : mon ≠ 0 → x.1 = 0)
    (hd : ra_dis x y (if fx < fy then fx else fy) = false)
    (hsx : sx < 11) (hsy : sy < 11) (qx : yv_Q 1 sx) (qy : yv_Q 1 sy) (hx0 : mon = 0 → ra_H rk0 dm0 am0 sx x) (hy0 : ra_H rk0 dm0 am0 sy y)
    (hp : ∀ rk' dm' am' lx' ly' lm' lfx' lfy' lfr' lp' lk' lc' lf' lM', (∀ N, N < 1 → yv_E N lx0 ly0 lm0 lfx0 lfy0 lfr0 lp0 lk0 lc0 lf0 lM0 lx' ly' lm' lfx' lfy' lfr' lp' lk' lc' lf' lM') → (∀ j, yv_Q 1 j → ra_S rk0 dm0 am0 rk' dm' am' j) →
      (ra_AE c fv (ra_PE c v) (ra_PA fv v) x y fx fy = 0 → ra_H rk' dm' am' 9 (ra_AA c fv (ra_PE c v) (ra_PA fv v) x y fx fy)) → post (ra_AE c fv (ra_PE c v) (ra_PA fv v) x y fx fy) (nI c, fv, oa, ol, ov, rk', dm', am', lx', ly', lm', lfx', lfy', lfr', lp', lk', lc', lf', lM'))

    (hz : ∀ i, i < ra_pos x y fx fy → ra_PE c v (ra_cx x y fx fy i) (ra_cy x y fx fy i) = 0) (eK : K = ra_K (ra_PA fv v) x y fx fy (ra_pos x y fx fy))
    (hJ : ∀ rk dm am lx ly lm lfx lfy lfr lp lk lc lf lM, yv_I 1 sx sy mon fx fy x y rk0 dm0 am0 lx0 ly0 lm0 lfx0 lfy0 lfr0 lp0 lk0 lc0 lf0 lM0 rk dm am lx ly lm lfx lfy lfr lp lk lc lf lM → lk 1 = nI K → (∀ i, i < K → lM (1 * 3 + i) = nI (ra_w (ra_PA fv v) x y fx fy (ra_pos x y fx fy) (i + (3 - K)))) → J (nI 2) (nI c) fv oa ol ov rk dm am lx ly lm lfx lfy lfr lp lk lc lf lM) :
    ∀ k q, q + k = ra_pos x y fx fy → ∀ n rk dm am lx ly lm lfx lfy lfr lp lk lc lf lM, yv_I 1 sx sy mon fx fy x y rk0 dm0 am0 lx0 ly0 lm0 lfx0 lfy0 lfr0 lp0 lk0 lc0 lf0 lM0 rk dm am lx ly lm lfx lfy lfr lp lk lc lf lM → lk 1 = nI K → (∀ i, i < K → lM (1 * 3 + i) = nI (ra_w (ra_PA fv v) x y fx fy q (i + (3 - K)))) →
    wY_innerA_146 post J (nI v) (nI 9) (nI 1) (n + k + 1) (nI q) (nI c) fv oa ol ov rk dm am lx ly lm lfx lfy lfr lp lk lc lf lM := by
  have hokk := ra_P_ok (fl := fv) h8 hc hv
  have hP := ra_pos_le hc wx wy hfx hfy
  have fr3 := ra_fr_3 wx wy hfx hfy
  have zW : ∀ q, q < ra_pos x y fx fy → ra_W c (ra_PA fv v (ra_cx x y fx fy q) (ra_cy x y fx fy q)) := fun q hq =>
    hokk _ _ (ra_cx_W wx hfx hd hq) (ra_cy_W wy hfy hd hq) (hz q hq)
  have k3 : K ≤ 3 := by rw [eK]; exact ra_max_le _ fun i hi => (zW i hi).1
  intro k
  induction k with
  | zero =>
    intro q hq n rk dm am lx ly lm lfx lfy lfr lp lk lc lf lM hI hK hM
    have hq' : q = ra_pos x y fx fy := by omega
    rw [hq'] at hM
    have hlp : lp 1 = nI (ra_pos x y fx fy) := hI.1.2.2.2.2.2.2.1
    rw [wY_innerA_146]
    exact br_t (show lp 1 ≤ nI q by rw [hlp]; exact nI_le (by omega) (by omega)) (nm_r (nI_1 1) (hJ rk dm am lx ly lm lfx lfy lfr lp lk lc lf lM hI hK hM))
  | succ k ih =>
    intro q hq n rk dm am lx ly lm lfx lfy lfr lp lk lc lf lM hI hK hM
    have hq' : q < ra_pos x y fx fy := by omega
    have hx : mon = 0 → ra_H rk dm am sx x := fun m => ra_H_S (hx0 m) wx hc (hI.2.2 sx qx)
    have hy := ra_H_S hy0 wy hc (hI.2.2 sy qy)
    have hlp : lp 1 = nI (ra_pos x y fx fy) := hI.1.2.2.2.2.2.2.1
    rw [wY_innerA_146]
    refine br_f (show ¬ lp 1 ≤ nI q by rw [hlp]; exact nI_ge hq' (by omega)) ?_
    refine ym_extract (L := 1) (dx := 6) (dy := 7) (by decide) hc hm hI.1 hx hy wx wy hfx hfy hd hq' hsx hsy (by decide) (by decide) (by unfold yv_Q yv_P at qx; omega) (by unfold yv_Q yv_P at qy; omega) (by unfold yv_Q yv_P at qy; omega) (by decide) ?_
    intro rk1 dm1 am1 h4 h6 hS1
    refine yb_1 hv h8 hc (ra_cx_W wx hfx hd hq') (ra_cy_W wy hfy hd hq') hfit hm hmv (fun m => by show x.1 - fx = 0; rw [hm0 m]; omega) h4 h6 ?_
    intro z zs rk2 dm2 am2 lx2 ly2 lm2 lfx2 lfy2 lfr2 lp2 lk2 lc2 lf2 lM2 hE2 hS2 hb
    have hI2 : yv_I 1 sx sy mon fx fy x y rk0 dm0 am0 lx0 ly0 lm0 lfx0 lfy0 lfr0 lp0 lk0 lc0 lf0 lM0 rk2 dm2 am2 lx2 ly2 lm2 lfx2 lfy2 lfr2 lp2 lk2 lc2 lf2 lM2 := yv_I_g fr3 (yv_I_s hI (fun j hj => hS1 j (by unfold yv_Q yv_P at hj; omega) (by unfold yv_Q yv_P at hj; omega))) hE2 (fun j hj => hS2 j hj.1)
    obtain ⟨t1, t2, t3⟩ := yv_E_k (K := 0) (hE2 1 (Nat.le_refl _))
    rcases hb with ⟨he, hz11, hzo, hzR, rfl, rfl⟩ | ⟨he, ez⟩
    · refine br_t (by decide) ?_
      have zK : (ra_PA fv v (ra_cx x y fx fy q) (ra_cy x y fx fy q)).1 ≤ K := by
        rw [eK]; exact ra_le_max (f := fun q => (ra_PA fv v (ra_cx x y fx fy q) (ra_cy x y fx fy q)).1) _ q hq'
      refine ym_absorb1 (L := 1) (m := fun i => ra_w (ra_PA fv v) x y fx fy q (i + (3 - K))) (by decide) hz11 hc (by omega) k3 zK (t1.trans hK) hzR (zW q hq') (fun i hi => ra_max_le _ fun p hp' => ra_lift_le (zW p (by omega)) (by omega) (by omega)) (fun i hi => (t3 i (by omega)).trans (hM i hi)) ?_
      intro lM3 hM3 ho3
      refine nm_r (nI_1 q) ?_
      exact ih (q + 1) (by omega) n _ _ _ _ _ _ _ _ _ _ _ _ _ _ (yv_I_k hI2 (fun N hN => ⟨rfl, rfl, ho3 N hN⟩)) (t1.trans hK) hM3
    · exact absurd (hz q hq') he
theorem yl2_1 {post : Int32 → SY → Prop} {c v fx fy sx sy mon : Nat} {x y : ra_A} {fv oa ol ov : Int32} {rk0 dm0 am0 lx0 ly0 lm0 lfx0 lfy0 lfr0 lp0 lk0 lc0 lf0 lM0 : Nat → Int32} {J : Int32 → Int32 → Int32 → Int32 → Int32 → Int32 → (Nat → Int32) → (Nat → Int32) → (Nat → Int32) → (Nat → Int32) → (Nat → Int32) → (Nat → Int32) → (Nat → Int32) → (Nat → Int32) → (Nat → Int32) → (Nat → Int32) → (Nat → Int32) → (Nat → Int32) → (Nat → Int32) → (Nat → Int32) → Prop} {K M : Nat} {w : Nat → Nat}
    (hv : v ≤ 12) (h8 : 8 ≤ c) (hc : c ≤ 32) (wx : ra_W c x) (wy : ra_W c y) (hfx : fx ≤ x.1) (hfy : fy ≤ y.1) (hfit : 1 = 1 → x.1 - fx ≤ ra_dL v ∧ y.1 - fy ≤ ra_dR v)
    (hm : mon ≤ 1) (hmv : mon = 0 ↔ 6 ≤ v) (hm0 : mon ≠ 0 → x.1 = 0)
    (hd : ra_dis x y (if fx < fy then fx else fy) = false)
    (hsx : sx < 11) (hsy : sy < 11) (qx : yv_Q 1 sx) (qy : yv_Q 1 sy) (hx0 : mon = 0 → ra_H rk0 dm0 am0 sx x) (hy0 : ra_H rk0 dm0 am0 sy y)
    (hp : ∀ rk' dm' am' lx' ly' lm' lfx' lfy' lfr' lp' lk' lc' lf' lM', (∀ N, N < 1 → yv_E N lx0 ly0 lm0 lfx0 lfy0 lfr0 lp0 lk0 lc0 lf0 lM0 lx' ly' lm' lfx' lfy' lfr' lp' lk' lc' lf' lM') → (∀ j, yv_Q 1 j → ra_S rk0 dm0 am0 rk' dm' am' j) →
      (ra_AE c fv (ra_PE c v) (ra_PA fv v) x y fx fy = 0 → ra_H rk' dm' am' 9 (ra_AA c fv (ra_PE c v) (ra_PA fv v) x y fx fy)) → post (ra_AE c fv (ra_PE c v) (ra_PA fv v) x y fx fy) (nI c, fv, oa, ol, ov, rk', dm', am', lx', ly', lm', lfx', lfy', lfr', lp', lk', lc', lf', lM'))

    (hz : ∀ i, i < ra_pos x y fx fy → ra_PE c v (ra_cx x y fx fy i) (ra_cy x y fx fy i) = 0) (eK : K = ra_K (ra_PA fv v) x y fx fy (ra_pos x y fx fy)) (ew : w = ra_w (ra_PA fv v) x y fx fy (ra_pos x y fx fy)) (eM : M = w 0 * w 1 * w 2) (pp : 0 < ra_pos x y fx fy)
    (hM : ra_pos x y fx fy * M ≤ c) (hK3 : ra_fr fx fy + K ≤ 3)
    (hJ : ∀ rk dm am lx ly lm lfx lfy lfr lp lk lc lf lM, yv_I 1 sx sy mon fx fy x y rk0 dm0 am0 lx0 ly0 lm0 lfx0 lfy0 lfr0 lp0 lk0 lc0 lf0 lM0 rk dm am lx ly lm lfx lfy lfr lp lk lc lf lM → ra_H rk dm am 9 (ra_AA c fv (ra_PE c v) (ra_PA fv v) x y fx fy) → J (nI 3) (nI c) fv oa ol ov rk dm am lx ly lm lfx lfy lfr lp lk lc lf lM) :
    ∀ k q, q + k = ra_pos x y fx fy → ∀ n rk dm am lx ly lm lfx lfy lfr lp lk lc lf lM, yv_I 1 sx sy mon fx fy x y rk0 dm0 am0 lx0 ly0 lm0 lfx0 lfy0 lfr0 lp0 lk0 lc0 lf0 lM0 rk dm am lx ly lm lfx lfy lfr lp lk lc lf lM → lk 1 = nI K → lc 1 = nI M → (∀ i, i < K → lM (1 * 3 + i) = nI (w (i + (3 - K)))) → rk 9 = nI (ra_fr fx fy + K) →
    (∀ i, i < ra_fr fx fy + K → dm (9 * 3 + i) = nI (if i < ra_fr fx fy then ra_F x y fx fy i else w (i - ra_fr fx fy + (3 - K)))) →
    (∀ i, i < q * M → am (9 * 32 + i) = (fun q i => ra_pl fv (w 1) (w 2) (ra_PA fv v (ra_cx x y fx fy q) (ra_cy x y fx fy q)) i) (i / M) (i % M)) →
    wY_innerA_146 post J (nI v) (nI 9) (nI 2) (n + k + 1) (nI q) (nI c) fv oa ol ov rk dm am lx ly lm lfx lfy lfr lp lk lc lf lM := by
  have hokk := ra_P_ok (fl := fv) h8 hc hv
  have hP := ra_pos_le hc wx wy hfx hfy
  have fr3 := ra_fr_3 wx wy hfx hfy
  have zW : ∀ q, q < ra_pos x y fx fy → ra_W c (ra_PA fv v (ra_cx x y fx fy q) (ra_cy x y fx fy q)) := fun q hq =>
    hokk _ _ (ra_cx_W wx hfx hd hq) (ra_cy_W wy hfy hd hq) (hz q hq)
  have w32 : ∀ j, j < 3 → w j ≤ c := fun j hj => by rw [ew]; exact ra_max_le _ fun q hq => ra_lift_le (zW q hq) (by omega) hj
  have w1 : ∀ j, j < 3 - K → w j = 1 := fun j hj => by rw [ew]; rw [eK] at hj; exact ra_w_1 pp j hj
  intro k
  induction k with
  | zero =>
    intro q hq n rk dm am lx ly lm lfx lfy lfr lp lk lc lf lM hI hK hC hMM hr hdm ha
    have hq' : q = ra_pos x y fx fy := by omega
    rw [hq'] at ha
    have hlp : lp 1 = nI (ra_pos x y fx fy) := hI.1.2.2.2.2.2.2.1
    rw [wY_innerA_146]
    exact br_t (show lp 1 ≤ nI q by rw [hlp]; exact nI_le (by omega) (by omega)) (nm_r (nI_1 2) (hJ rk dm am lx ly lm lfx lfy lfr lp lk lc lf lM hI (ra_H_AA pp rfl eK ew eM rfl (by omega) hr hdm ha)))
  | succ k ih =>
    intro q hq n rk dm am lx ly lm lfx lfy lfr lp lk lc lf lM hI hK hC hMM hr hdm ha
    have hq' : q < ra_pos x y fx fy := by omega
    have hx : mon = 0 → ra_H rk dm am sx x := fun m => ra_H_S (hx0 m) wx hc (hI.2.2 sx qx)
    have hy := ra_H_S hy0 wy hc (hI.2.2 sy qy)
    have hlp : lp 1 = nI (ra_pos x y fx fy) := hI.1.2.2.2.2.2.2.1
    rw [wY_innerA_146]
    refine br_f (show ¬ lp 1 ≤ nI q by rw [hlp]; exact nI_ge hq' (by omega)) ?_
    refine ym_extract (L := 1) (dx := 6) (dy := 7) (by decide) hc hm hI.1 hx hy wx wy hfx hfy hd hq' hsx hsy (by decide) (by decide) (by unfold yv_Q yv_P at qx; omega) (by unfold yv_Q yv_P at qy; omega) (by unfold yv_Q yv_P at qy; omega) (by decide) ?_
    intro rk1 dm1 am1 h4 h6 hS1
    refine yb_1 hv h8 hc (ra_cx_W wx hfx hd hq') (ra_cy_W wy hfy hd hq') hfit hm hmv (fun m => by show x.1 - fx = 0; rw [hm0 m]; omega) h4 h6 ?_
    intro z zs rk2 dm2 am2 lx2 ly2 lm2 lfx2 lfy2 lfr2 lp2 lk2 lc2 lf2 lM2 hE2 hS2 hb
    have hI2 : yv_I 1 sx sy mon fx fy x y rk0 dm0 am0 lx0 ly0 lm0 lfx0 lfy0 lfr0 lp0 lk0 lc0 lf0 lM0 rk2 dm2 am2 lx2 ly2 lm2 lfx2 lfy2 lfr2 lp2 lk2 lc2 lf2 lM2 := yv_I_g fr3 (yv_I_s hI (fun j hj => hS1 j (by unfold yv_Q yv_P at hj; omega) (by unfold yv_Q yv_P at hj; omega))) hE2 (fun j hj => hS2 j hj.1)
    obtain ⟨t1, t2, t3⟩ := yv_E_k (K := 0) (hE2 1 (Nat.le_refl _))
    have hSo : ra_S rk dm am rk2 dm2 am2 9 := ra_S_t (hS1 _ (by decide) (by decide)) (hS2 _ (by unfold yv_P; decide))
    have hqM : q * M + M ≤ 32 := by
      have : (q + 1) * M ≤ ra_pos x y fx fy * M := Nat.mul_le_mul_right _ hq'
      rw [Nat.succ_mul] at this; omega
    rcases hb with ⟨he, hz11, hzo, hzR, rfl, rfl⟩ | ⟨he, ez⟩
    · refine br_t (by decide) ?_
      have zK : (ra_PA fv v (ra_cx x y fx fy q) (ra_cy x y fx fy q)).1 ≤ K := by
        rw [eK]; exact ra_le_max (f := fun q => (ra_PA fv v (ra_cx x y fx fy q) (ra_cy x y fx fy q)).1) _ q hq'
      have hMM2 : ∀ i, i < K → lM2 (1 * 3 + i) = nI (w (i + (3 - K))) := fun i hi => (t3 i (by omega)).trans (hMM i hi)
      refine ym_absorb2 (L := 1) (o := 9) (w := w) (M := M) (by decide) hz11 (by decide) hzo hc (by omega) (by omega) zK hzR (zW q hq') w32 w1 (t1.trans hK) (t2.trans hC) hMM2 eM hqM ?_
      refine nm_r (nI_1 q) ?_
      refine ih (q + 1) (by omega) n _ _ _ _ _ _ _ _ _ _ _ _ _ _ (yv_I_s hI2 (fun j hj => ⟨rfl, fun _ _ => rfl, fun i hi => ra_blk_out (by unfold yv_Q yv_P at hj; omega)⟩)) (t1.trans hK) (t2.trans hC) hMM2 (hSo.1.trans hr)
        (fun i hi => (hSo.2.1 i (by omega)).trans (hdm i hi)) ?_
      refine ra_At_s (am := am) (b := 9 * 32) (M := M) (q := q) (val := fun q i => ra_pl fv (w 1) (w 2) (ra_PA fv v (ra_cx x y fx fy q) (ra_cy x y fx fy q)) i) ha (fun i hi => ?_) (fun i hi => ?_)
      · rw [ra_blk_out (by omega)]
        exact hSo.2.2 i (by omega)
      · rw [← Nat.add_assoc, ra_blk_in hi]
    · exact absurd (hz q hq') he
theorem yp_1 {post : Int32 → SY → Prop} {c v fx fy sx sy mon : Nat} {x y : ra_A} {fv oa ol ov : Int32} {rk0 dm0 am0 lx0 ly0 lm0 lfx0 lfy0 lfr0 lp0 lk0 lc0 lf0 lM0 : Nat → Int32} {rk dm am lx ly lm lfx lfy lfr lp lk lc lf lM : Nat → Int32}
    (hv : v ≤ 12) (h8 : 8 ≤ c) (hc : c ≤ 32) (wx : ra_W c x) (wy : ra_W c y) (hfx : fx ≤ x.1) (hfy : fy ≤ y.1) (hfit : 1 = 1 → x.1 - fx ≤ ra_dL v ∧ y.1 - fy ≤ ra_dR v)
    (hm : mon ≤ 1) (hmv : mon = 0 ↔ 6 ≤ v) (hm0 : mon ≠ 0 → x.1 = 0)
    (hd : ra_dis x y (if fx < fy then fx else fy) = false)
    (hsx : sx < 11) (hsy : sy < 11) (qx : yv_Q 1 sx) (qy : yv_Q 1 sy) (hx0 : mon = 0 → ra_H rk0 dm0 am0 sx x) (hy0 : ra_H rk0 dm0 am0 sy y)
    (hp : ∀ rk' dm' am' lx' ly' lm' lfx' lfy' lfr' lp' lk' lc' lf' lM', (∀ N, N < 1 → yv_E N lx0 ly0 lm0 lfx0 lfy0 lfr0 lp0 lk0 lc0 lf0 lM0 lx' ly' lm' lfx' lfy' lfr' lp' lk' lc' lf' lM') → (∀ j, yv_Q 1 j → ra_S rk0 dm0 am0 rk' dm' am' j) →
      (ra_AE c fv (ra_PE c v) (ra_PA fv v) x y fx fy = 0 → ra_H rk' dm' am' 9 (ra_AA c fv (ra_PE c v) (ra_PA fv v) x y fx fy)) → post (ra_AE c fv (ra_PE c v) (ra_PA fv v) x y fx fy) (nI c, fv, oa, ol, ov, rk', dm', am', lx', ly', lm', lfx', lfy', lfr', lp', lk', lc', lf', lM'))

    (pp : 0 < ra_pos x y fx fy) (hI : yv_I 1 sx sy mon fx fy x y rk0 dm0 am0 lx0 ly0 lm0 lfx0 lfy0 lfr0 lp0 lk0 lc0 lf0 lM0 rk dm am lx ly lm lfx lfy lfr lp lk lc lf lM) : ∃ n, wY_innerA_118 post (nI v) (nI 9) n 0 (nI c) fv oa ol ov rk dm am lx ly lm lfx lfy lfr lp lk lc lf lM := by
  have hokk := ra_P_ok (fl := fv) h8 hc hv
  have hP := ra_pos_le hc wx wy hfx hfy
  have fr3 := ra_fr_3 wx wy hfx hfy
  have hF := ra_F_le wx wy hfx hfy
  refine ⟨3 + 1, ?_⟩
  rw [wY_innerA_118]
  refine br_f (by decide) ?_
  refine ym_prep0 (L := 1) (o := 9) (by decide) (br_t (by decide) ⟨_, yl0_1 hv h8 hc wx wy hfx hfy hfit hm hmv hm0 hd hsx hsy qx qy hx0 hy0 hp ?_ (ra_pos x y fx fy) 0 (Nat.zero_add _) 0 _ _ _ _ _ _ _ _ _ _ _ _ _ _ (yv_I_k hI (fun N hN => ⟨pk_un hN, rfl, fun _ _ => rfl⟩)) pk_us (fun i hi => absurd hi (Nat.not_lt_zero i))⟩)
  intro rk1 dm1 am1 lx1 ly1 lm1 lfx1 lfy1 lfr1 lp1 lk1 lc1 lf1 lM1 hI1 hK1 hz
  have zW : ∀ q, q < ra_pos x y fx fy → ra_W c (ra_PA fv v (ra_cx x y fx fy q) (ra_cy x y fx fy q)) := fun q hq =>
    hokk _ _ (ra_cx_W wx hfx hd hq) (ra_cy_W wy hfy hd hq) (hz q hq)
  have k3 : ra_K (ra_PA fv v) x y fx fy (ra_pos x y fx fy) ≤ 3 := ra_max_le _ fun i hi => (zW i hi).1
  have w32 : ∀ j, j < 3 → ra_w (ra_PA fv v) x y fx fy (ra_pos x y fx fy) j ≤ c := fun j hj => ra_max_le _ fun q hq => ra_lift_le (zW q hq) (by omega) hj
  have eMM : ra_prod (fun i => ra_w (ra_PA fv v) x y fx fy (ra_pos x y fx fy) (i + (3 - ra_K (ra_PA fv v) x y fx fy (ra_pos x y fx fy)))) 0 (ra_K (ra_PA fv v) x y fx fy (ra_pos x y fx fy)) = ra_w (ra_PA fv v) x y fx fy (ra_pos x y fx fy) 0 * ra_w (ra_PA fv v) x y fx fy (ra_pos x y fx fy) 1 * ra_w (ra_PA fv v) x y fx fy (ra_pos x y fx fy) 2 :=
    ra_w3 k3 (ra_w_1 pp)
  have e1 := ra_AE_l (c := c) (fl := fv) (E := ra_PE c v) (R := ra_PA fv v) hd pp hz
  show wY_innerA_118 post (nI v) (nI 9) (2 + 1) (nI 1) (nI c) fv oa ol ov rk1 dm1 am1 lx1 ly1 lm1 lfx1 lfy1 lfr1 lp1 lk1 lc1 lf1 lM1
  rw [wY_innerA_118]
  refine br_f (by decide) ?_
  refine ym_prep1 (L := 1) (o := 9) (by decide) (br_t (by decide) ⟨_, yl1_1 hv h8 hc wx wy hfx hfy hfit hm hmv hm0 hd hsx hsy qx qy hx0 hy0 hp hz rfl ?_ (ra_pos x y fx fy) 0 (Nat.zero_add _) 0 _ _ _ _ _ _ _ _ _ _ _ _ _ _ (yv_I_k hI1 (fun N hN => ⟨rfl, rfl, fun i hi => ra_blk_out (by omega)⟩)) hK1 (fun i hi => ra_blk_in (by omega))⟩)
  intro rk2 dm2 am2 lx2 ly2 lm2 lfx2 lfy2 lfr2 lp2 lk2 lc2 lf2 lM2 hI2 hK2 hM2
  show wY_innerA_118 post (nI v) (nI 9) (1 + 1) (nI 2) (nI c) fv oa ol ov rk2 dm2 am2 lx2 ly2 lm2 lfx2 lfy2 lfr2 lp2 lk2 lc2 lf2 lM2
  rw [wY_innerA_118]
  refine br_f (by decide) ?_
  refine ym_prep2 (L := 1) (o := 9) (by decide) (by decide) hc fr3 k3 hP (m := fun i => ra_w (ra_PA fv v) x y fx fy (ra_pos x y fx fy) (i + (3 - ra_K (ra_PA fv v) x y fx fy (ra_pos x y fx fy)))) (fun i hi => w32 _ (by omega)) hI2.1.2.2.2.2.2.1 hI2.1.2.2.2.2.2.2.1 hI2.1.2.2.2.2.2.2.2 hK2 hM2 ?_ ?_ ?_
  · intro h3
    rw [if_pos (.inl h3)] at e1
    have := hp rk2 dm2 am2 lx2 ly2 lm2 lfx2 lfy2 lfr2 lp2 lk2 lc2 lf2 lM2 hI2.2.1 hI2.2.2 (fun z => absurd (e1.symm.trans z) (by decide))
    rw [e1] at this
    exact br_f (by decide) this
  · intro hl lc' hc'
    rw [eMM] at hl
    rw [if_pos (.inr hl)] at e1
    have hI3 := yv_I_k (lk2 := lk2) (lc2 := lc') (lM2 := lM2) hI2 (fun N hN => ⟨rfl, hc' N hN, fun _ _ => rfl⟩)
    have := hp _ _ _ _ _ _ _ _ _ _ _ _ _ _ hI3.2.1 hI3.2.2 (fun z => absurd (e1.symm.trans z) (by decide))
    rw [e1] at this
    exact br_f (by decide) this
  · intro h3 hl rk' dm' lc' hC hc' hr hdm hS
    rw [eMM] at hl hC
    rw [if_neg (by omega)] at e1
    have hI3 := yv_I_s (rk2 := rk') (dm2 := dm') (am2 := am2) (yv_I_k (lk2 := lk2) (lc2 := lc') (lM2 := lM2) hI2 (fun N hN => ⟨rfl, hc' N hN, fun _ _ => rfl⟩)) (fun j hj => hS j (by unfold yv_Q yv_P at hj; omega))
    refine br_t (by decide) ⟨_, yl2_1 hv h8 hc wx wy hfx hfy hfit hm hmv hm0 hd hsx hsy qx qy hx0 hy0 hp hz rfl rfl rfl pp hl h3 ?_ (ra_pos x y fx fy) 0 (Nat.zero_add _) 0 _ _ _ _ _ _ _ _ _ _ _ _ _ _ hI3 hK2 hC hM2 hr hdm (fun i hi => by rw [Nat.zero_mul] at hi; omega)⟩
    intro rk3 dm3 am3 lx3 ly3 lm3 lfx3 lfy3 lfr3 lp3 lk3 lc3 lf3 lM3 hI4 hAA
    show wY_innerA_118 post (nI v) (nI 9) (0 + 1) (nI 3) (nI c) fv oa ol ov rk3 dm3 am3 lx3 ly3 lm3 lfx3 lfy3 lfr3 lp3 lk3 lc3 lf3 lM3
    rw [wY_innerA_118]
    have := hp rk3 dm3 am3 lx3 ly3 lm3 lfx3 lfy3 lfr3 lp3 lk3 lc3 lf3 lM3 hI4.2.1 hI4.2.2 (fun _ => hAA)
    rw [e1] at this
    exact br_t (by decide) this

theorem yj_1 {post : Int32 → SY → Prop} {c v fx fy sx sy mon : Nat} {x y : ra_A} {fv oa ol ov : Int32} {rk0 dm0 am0 lx0 ly0 lm0 lfx0 lfy0 lfr0 lp0 lk0 lc0 lf0 lM0 : Nat → Int32} {K zs : Nat} {G : Nat → Nat} {zz : Int32} {rk dm am lx ly lm lfx lfy lfr lp lk lc lf lM : Nat → Int32}
    (hv : v ≤ 12) (h8 : 8 ≤ c) (hc : c ≤ 32) (wx : ra_W c x) (wy : ra_W c y) (hfx : fx ≤ x.1) (hfy : fy ≤ y.1) (hfit : 1 = 1 → x.1 - fx ≤ ra_dL v ∧ y.1 - fy ≤ ra_dR v)
    (hm : mon ≤ 1) (hmv : mon = 0 ↔ 6 ≤ v) (hm0 : mon ≠ 0 → x.1 = 0)
    (hd : ra_dis x y (if fx < fy then fx else fy) = false)
    (hsx : sx < 11) (hsy : sy < 11) (qx : yv_Q 1 sx) (qy : yv_Q 1 sy) (hx0 : mon = 0 → ra_H rk0 dm0 am0 sx x) (hy0 : ra_H rk0 dm0 am0 sy y)
    (hp : ∀ rk' dm' am' lx' ly' lm' lfx' lfy' lfr' lp' lk' lc' lf' lM', (∀ N, N < 1 → yv_E N lx0 ly0 lm0 lfx0 lfy0 lfr0 lp0 lk0 lc0 lf0 lM0 lx' ly' lm' lfx' lfy' lfr' lp' lk' lc' lf' lM') → (∀ j, yv_Q 1 j → ra_S rk0 dm0 am0 rk' dm' am' j) →
      (ra_AE c fv (ra_PE c v) (ra_PA fv v) x y fx fy = 0 → ra_H rk' dm' am' 9 (ra_AA c fv (ra_PE c v) (ra_PA fv v) x y fx fy)) → post (ra_AE c fv (ra_PE c v) (ra_PA fv v) x y fx fy) (nI c, fv, oa, ol, ov, rk', dm', am', lx', ly', lm', lfx', lfy', lfr', lp', lk', lc', lf', lM'))

    (p0 : ra_pos x y fx fy = 0) (hI : yv_I 1 sx sy mon fx fy x y rk0 dm0 am0 lx0 ly0 lm0 lfx0 lfy0 lfr0 lp0 lk0 lc0 lf0 lM0 rk dm am lx ly lm lfx lfy lfr lp lk lc lf lM) (eK : K = (ra_S0 c fv (ra_PE c v) (ra_PA fv v) x y fx fy).1) (k3 : K ≤ 3) (eG : ∀ i, i < K → G i = (ra_S0 c fv (ra_PE c v) (ra_PA fv v) x y fx fy).2.1 i)
    (hz : 0 < K → zz = nI zs ∧ zs < 11 ∧ zs ≠ 9 ∧ ∀ i, i < K → dm (zs * 3 + i) = nI (G i)) (hzz : zz < 0 ∧ K = 0 ∨ (zz = nI zs ∧ zs < 11 ∧ rk zs = nI K)) : wY_innerA_105 post 9 zz (nI c) fv oa ol ov rk dm am lx ly lm lfx lfy lfr lp lk lc lf lM := by
  have fr3 := ra_fr_3 wx wy hfx hfy
  have e1 := ra_AE_0 (c := c) (fl := fv) (E := ra_PE c v) (R := ra_PA fv v) hd p0
  rw [← eK] at e1
  have main : ∀ kk, kk = nI K → wY_emptyOut_14 (fun r u => match u with | (cp9, fv9, oa9, ol9, ov9, rk9, dm9, am9, lx9, ly9, lm9, lfx9, lfy9, lfr9, lp9, lk9, lc9, lf9, lM9) => post r (cp9, fv9, oa9, ol9, ov9, rk9, dm9, am9, lx9, ly9, lm9, lfx9, lfy9, lfr9, lp9, lk9, lc9, lf9, lM9)) (nI 1) zz (nI 9) kk (nI c) fv oa ol ov rk dm am lx ly lm lfx lfy lfr lp lk lc lf lM := by
    intro kk ek
    subst ek
    refine ym_eo14 (L := 1) (o := 9) (F := ra_F x y fx fy) (G := G) (by decide) (by decide) fr3 k3 hI.1.2.2.2.2.2.1 hI.1.2.2.2.2.2.2.2 hz ?_ ?_
    · intro h3
      rw [if_pos h3] at e1
      have := hp rk dm am lx ly lm lfx lfy lfr lp lk lc lf lM hI.2.1 hI.2.2 (fun z => absurd (e1.symm.trans z) (by decide))
      rw [e1] at this
      exact this
    · intro h3 rk2 dm2 hr hdm hS
      rw [if_neg (by omega)] at e1
      have hI2 := yv_I_s (rk2 := rk2) (dm2 := dm2) (am2 := am) hI (fun j hj => hS j (by unfold yv_Q yv_P at hj; omega))
      have := hp _ _ _ _ _ _ _ _ _ _ _ _ _ _ hI2.2.1 hI2.2.2 (fun _ => ra_H_A0 p0 eK eG hr hdm)
      rw [e1] at this
      exact this
  unfold wY_innerA_105 wpY_emptyOut
  rcases hzz with ⟨z1, z2⟩ | ⟨z1, z2, z3⟩
  · refine br_f (Int32.not_le.mpr z1) (main 0 ?_)
    rw [z2]; rfl
  · subst z1
    refine br_t (nI_pos' (by omega)) ⟨vp_in_nI z2 (by decide), main _ ?_⟩
    rw [nI_clamp (by omega)]
    exact z3

