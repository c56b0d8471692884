/-! X: A as a call asks for it -/


theorem xl2_0 {post : Int32 → SX → Prop} {c v fx fy sx sy P M K : Nat} {w : Nat → Nat} {x y : ra_A} {fv oa ol ov : Int32} {rk0 dm0 am0 xs0 ys0 xf0 yf0 fs0 fr0 wr0 wd0 : Nat → Int32}
    (hv : v ≤ 12) (h8 : 8 ≤ c) (hc : c ≤ 32) (wx : ra_W c x) (wy : ra_W c y) (hfx : fx ≤ x.1) (hfy : fy ≤ y.1) (hfit : 0 = 1 → x.1 - fx ≤ ra_dL v ∧ y.1 - fy ≤ ra_dR v)
    (hd : ra_dis x y (if fx < fy then fx else fy) = false) (eP : P = ra_pos x y fx fy) (pP : 0 < P)
    (hsx : sx < 12) (hsy : sy < 12) (qx : xv_Q 0 sx) (qy : xv_Q 0 sy) (hx0 : ra_H rk0 dm0 am0 sx x) (hy0 : ra_H rk0 dm0 am0 sy y)
    (hp : ∀ rk' dm' am' xs' ys' xf' yf' fs' fr' wr' wd', (∀ N, N < 0 → xv_E N xs0 ys0 xf0 yf0 fs0 fr0 wr0 wd0 xs' ys' xf' yf' fs' fr' wr' wd') → (∀ j, xv_Q 0 j → ra_S rk0 dm0 am0 rk' dm' am' j) →
      (ra_AE c fv (ra_BE c fv v) (ra_BA c fv v) x y fx fy = 0 → ra_H rk' dm' am' (8 + 0) (ra_AA c fv (ra_BE c fv v) (ra_BA c fv v) x y fx fy)) → post (ra_AE c fv (ra_BE c fv v) (ra_BA c fv v) x y fx fy) (nI c, fv, oa, ol, ov, rk', dm', am', xs', ys', xf', yf', fs', fr', wr', wd'))

    (hz : ∀ i, i < P → ra_BE c fv v (ra_cx x y fx fy i) (ra_cy x y fx fy i) = 0) (eK : K = ra_K (ra_BA c fv v) x y fx fy P) (ew : w = ra_w (ra_BA c fv v) x y fx fy P) (eM : M = w 0 * w 1 * w 2) (k3 : ra_fr fx fy + K ≤ 3) (hM : P * M ≤ c) :
    ∀ k q, q + k = P → ∀ n rk dm am xs ys xf yf fs fr wr wd, xv_I 0 sx sy fx fy rk0 dm0 am0 xs0 ys0 xf0 yf0 fs0 fr0 wr0 wd0 rk dm am xs ys xf yf fs fr wr wd → xv_D wr wd 0 K w → rk (8 + 0) = nI (ra_fr fx fy + K) →
    (∀ i, i < ra_fr fx fy + K → dm ((8 + 0) * 3 + i) = nI (if i < ra_fr fx fy then ra_F x y fx fy i else w (i - ra_fr fx fy + (3 - K)))) →
    (∀ i, i < q * M → am ((8 + 0) * 32 + i) = (fun q i => ra_pl fv (w 1) (w 2) (ra_BA c fv v (ra_cx x y fx fy q) (ra_cy x y fx fy q)) i) (i / M) (i % M)) →
    wX_applyOuter_133 post (nI v) (nI P) (n + k + 1) (nI q) (nI c) fv oa ol ov rk dm am xs ys xf yf fs fr wr wd := by
  have hokk := ra_B_ok (fl := fv) h8 hc hv
  have zW : ∀ q, q < P → ra_W c (ra_BA c fv v (ra_cx x y fx fy q) (ra_cy x y fx fy q)) := fun q hq =>
    hokk _ _ (ra_cx_W wx hfx hd (by omega)) (ra_cy_W wy hfy hd (by omega)) (hz q hq)
  have w32 : ∀ j, j < 3 → w j ≤ c := fun j hj => by rw [ew]; exact ra_max_le _ fun q hq => ra_lift_le (zW q hq) (by omega) hj
  have e0 : ra_AE c fv (ra_BE c fv v) (ra_BA c fv v) x y fx fy = 0 := by
    rw [ra_AE_l hd (by omega) (by rw [← eP]; exact hz), if_neg]
    rw [← eP, ← eK, ← ew, ← eM]
    omega
  intro k
  induction k with
  | zero =>
    intro q hq n rk dm am xs ys xf yf fs fr wr wd hI hD hr hdm ha
    have hq' : q = P := by omega
    subst hq'
    rw [wX_applyOuter_133]
    refine br_t (nI_le (Nat.le_refl _) (by have := ra_pos_le hc wx wy hfx hfy; omega)) ?_
    have := hp rk dm am xs ys xf yf fs fr wr wd hI.2.1 hI.2.2 (fun _ => ra_H_AA (by omega) eP eK ew eM rfl (by omega) hr hdm ha)
    rw [e0] at this
    exact this
  | succ k ih =>
    intro q hq n rk dm am xs ys xf yf fs fr wr wd hI hD hr hdm ha
    have hP := ra_pos_le hc wx wy hfx hfy
    have hq' : q < P := by omega
    have hx := ra_H_S hx0 wx hc (hI.2.2 sx qx)
    have hy := ra_H_S hy0 wy hc (hI.2.2 sy qy)
    rw [wX_applyOuter_133]
    refine br_f (nI_ge hq' (by omega)) ?_
    refine xm_fetchCells (L := 0) (by decide) hc hI.1 hx hy wx wy hfx hfy hd (by omega) hsx hsy qx qy ?_
    intro rk1 dm1 am1 h4 h6 hS1
    refine xb_0 hv h8 hc (ra_cx_W wx hfx hd (by omega)) (ra_cy_W wy hfy hd (by omega)) hfit h4 h6 ?_
    intro rk2 dm2 am2 xs2 ys2 xf2 yf2 fs2 fr2 wr2 wd2 hE2 hS2 hR2
    have hI2 : xv_I 0 sx sy fx fy rk0 dm0 am0 xs0 ys0 xf0 yf0 fs0 fr0 wr0 wd0 rk2 dm2 am2 xs2 ys2 xf2 yf2 fs2 fr2 wr2 wd2 := xv_I_g (xv_I_s hI (fun j hj => hS1 j hj.2.1 hj.2.2.1)) hE2 (fun j hj => hS2 j hj.1)
    have hD2 := xv_D_E (hE2 0 (Nat.le_refl _)) hD
    have hS8 : ra_S rk dm am rk2 dm2 am2 (8 + 0) := ra_S_t (hS1 _ (by omega) (by omega)) (hS2 _ (by unfold xv_P; omega))
    have hqM : q * M + M ≤ 32 := by
      have : (q + 1) * M ≤ P * M := Nat.mul_le_mul_right _ hq'
      rw [Nat.succ_mul] at this; omega
    refine xm_placeCell (L := 0) (by decide) hc hD2 (hR2 (hz q hq')) (zW q hq') w32 eM hqM (by omega) ?_
    refine nm_r (nI_1 q) ?_
    refine ih (q + 1) (by omega) n _ _ _ _ _ _ _ _ _ _ _ (xv_I_s hI2 (fun j hj => ⟨rfl, fun _ _ => rfl, fun i hi => ra_blk_out (by have := hj.2.2.2; omega)⟩)) hD2 (hS8.1.trans hr)
      (fun i hi => (hS8.2.1 i (by omega)).trans (hdm i hi)) ?_
    refine ra_At_s (am := am) (b := (8 + 0) * 32) (M := M) (q := q) (val := fun q i => ra_pl fv (w 1) (w 2) (ra_BA c fv v (ra_cx x y fx fy q) (ra_cy x y fx fy q)) i) ha (fun i hi => ?_) (fun i hi => ?_)
    · rw [ra_blk_out (by omega)]
      exact hS8.2.2 i (by omega)
    · rw [← Nat.add_assoc, ra_blk_in hi]
theorem xl1_0 {post : Int32 → SX → Prop} {c v fx fy sx sy P : Nat} {x y : ra_A} {fv oa ol ov : Int32} {rk0 dm0 am0 xs0 ys0 xf0 yf0 fs0 fr0 wr0 wd0 : Nat → Int32}
    (hv : v ≤ 12) (h8 : 8 ≤ c) (hc : c ≤ 32) (wx : ra_W c x) (wy : ra_W c y) (hfx : fx ≤ x.1) (hfy : fy ≤ y.1) (hfit : 0 = 1 → x.1 - fx ≤ ra_dL v ∧ y.1 - fy ≤ ra_dR v)
    (hd : ra_dis x y (if fx < fy then fx else fy) = false) (eP : P = ra_pos x y fx fy) (pP : 0 < P)
    (hsx : sx < 12) (hsy : sy < 12) (qx : xv_Q 0 sx) (qy : xv_Q 0 sy) (hx0 : ra_H rk0 dm0 am0 sx x) (hy0 : ra_H rk0 dm0 am0 sy y)
    (hp : ∀ rk' dm' am' xs' ys' xf' yf' fs' fr' wr' wd', (∀ N, N < 0 → xv_E N xs0 ys0 xf0 yf0 fs0 fr0 wr0 wd0 xs' ys' xf' yf' fs' fr' wr' wd') → (∀ j, xv_Q 0 j → ra_S rk0 dm0 am0 rk' dm' am' j) →
      (ra_AE c fv (ra_BE c fv v) (ra_BA c fv v) x y fx fy = 0 → ra_H rk' dm' am' (8 + 0) (ra_AA c fv (ra_BE c fv v) (ra_BA c fv v) x y fx fy)) → post (ra_AE c fv (ra_BE c fv v) (ra_BA c fv v) x y fx fy) (nI c, fv, oa, ol, ov, rk', dm', am', xs', ys', xf', yf', fs', fr', wr', wd'))
 :
    ∀ k q, q + k = P → ∀ n rk dm am xs ys xf yf fs fr wr wd, xv_I 0 sx sy fx fy rk0 dm0 am0 xs0 ys0 xf0 yf0 fs0 fr0 wr0 wd0 rk dm am xs ys xf yf fs fr wr wd → xv_D wr wd 0 (ra_K (ra_BA c fv v) x y fx fy q) (ra_w (ra_BA c fv v) x y fx fy q) → (∀ i, i < q → ra_BE c fv v (ra_cx x y fx fy i) (ra_cy x y fx fy i) = 0) →
    wX_applyOuter_75 post (nI v) (nI P) (n + k + 1) (nI q) (nI c) fv oa ol ov rk dm am xs ys xf yf fs fr wr wd := by
  have hokk := ra_B_ok (fl := fv) h8 hc hv
  have hP := ra_pos_le hc wx wy hfx hfy
  have zW : ∀ q, q < P → ra_BE c fv v (ra_cx x y fx fy q) (ra_cy x y fx fy q) = 0 → ra_W c (ra_BA c fv v (ra_cx x y fx fy q) (ra_cy x y fx fy q)) := fun q hq =>
    hokk _ _ (ra_cx_W wx hfx hd (by omega)) (ra_cy_W wy hfy hd (by omega))
  intro k
  induction k with
  | zero =>
    intro q hq n rk dm am xs ys xf yf fs fr wr wd hI hD hz
    have hq' : q = P := by omega
    subst hq'
    have hx := ra_H_S hx0 wx hc (hI.2.2 sx qx)
    have hy := ra_H_S hy0 wy hc (hI.2.2 sy qy)
    have k3 : ra_K (ra_BA c fv v) x y fx fy q ≤ 3 := ra_max_le _ fun i hi => (zW i hi (hz i hi)).1
    have w32 : ∀ j, j < 3 → ra_w (ra_BA c fv v) x y fx fy q j ≤ c := fun j hj => ra_max_le _ fun i hi => ra_lift_le (zW i hi (hz i hi)) (by omega) hj
    have hF := ra_F_le wx wy hfx hfy
    have e1 := ra_AE_l (c := c) (fl := fv) (E := ra_BE c fv v) (R := ra_BA c fv v) hd (by omega) (by rw [← eP]; exact hz)
    rw [← eP] at e1
    rw [wX_applyOuter_75]
    refine br_t (nI_le (Nat.le_refl _) (by omega)) ?_
    refine xm_shapeResult (L := 0) (by decide) h8 hc hI.1 hD k3 w32 hx hy wx wy hfx hfy hsx hsy qx qy ?_ ?_
    · intro h3
      rw [if_pos (.inl h3)] at e1
      have := hp rk dm am xs ys xf yf fs fr wr wd hI.2.1 hI.2.2 (fun z => absurd (e1.symm.trans z) (by decide))
      rw [e1] at this
      exact br_f (by decide) this
    · intro h3 rk2 dm2 hr hdm hS
      rw [ra_lim_g hF w32 k3 (ra_w_1 (by omega))]
      have hI2 := xv_I_s (rk2 := rk2) (dm2 := dm2) (am2 := am) hI (fun j hj => hS j hj.2.2.2)
      by_cases hl : c < q * (ra_w (ra_BA c fv v) x y fx fy q 0 * ra_w (ra_BA c fv v) x y fx fy q 1 * ra_w (ra_BA c fv v) x y fx fy q 2)
      · rw [if_pos (.inr hl)] at e1
        have := hp _ _ _ _ _ _ _ _ _ _ _ hI2.2.1 hI2.2.2 (fun z => absurd (e1.symm.trans z) (by decide))
        rw [e1] at this
        rw [if_pos (decide_eq_true (by first | exact hl | (rw [eP] at hl ⊢; exact hl)))]
        exact br_f (by decide) this
      · rw [if_neg (fun z => hl (by have z' := of_decide_eq_true z; first | exact z' | (rw [eP]; rw [eP] at z'; exact z')))]
        refine br_t rfl ⟨_, xl2_0 hv h8 hc wx wy hfx hfy hfit hd eP pP hsx hsy qx qy hx0 hy0 hp hz rfl rfl rfl h3 (Nat.le_of_not_lt hl) q 0 (Nat.zero_add q) 0 _ _ _ _ _ _ _ _ _ _ _ hI2 hD hr hdm ?_⟩
        intro i hi
        rw [Nat.zero_mul] at hi
        omega
  | succ k ih =>
    intro q hq n rk dm am xs ys xf yf fs fr wr wd hI hD hz
    have hq' : q < P := by omega
    have hx := ra_H_S hx0 wx hc (hI.2.2 sx qx)
    have hy := ra_H_S hy0 wy hc (hI.2.2 sy qy)
    rw [wX_applyOuter_75]
    refine br_f (nI_ge hq' (by omega)) ?_
    refine xm_fetchCells (L := 0) (by decide) hc hI.1 hx hy wx wy hfx hfy hd (by omega) hsx hsy qx qy ?_
    intro rk1 dm1 am1 h4 h6 hS1
    refine xb_0 hv h8 hc (ra_cx_W wx hfx hd (by omega)) (ra_cy_W wy hfy hd (by omega)) hfit h4 h6 ?_
    intro rk2 dm2 am2 xs2 ys2 xf2 yf2 fs2 fr2 wr2 wd2 hE2 hS2 hR2
    have hI2 : xv_I 0 sx sy fx fy rk0 dm0 am0 xs0 ys0 xf0 yf0 fs0 fr0 wr0 wd0 rk2 dm2 am2 xs2 ys2 xf2 yf2 fs2 fr2 wr2 wd2 := xv_I_g (xv_I_s hI (fun j hj => hS1 j hj.2.1 hj.2.2.1)) hE2 (fun j hj => hS2 j hj.1)
    have hD2 := xv_D_E (hE2 0 (Nat.le_refl _)) hD
    by_cases he : ra_BE c fv v (ra_cx x y fx fy q) (ra_cy x y fx fy q) = 0
    · refine br_t he ?_
      have zw := zW q hq' he
      have k3 : ra_K (ra_BA c fv v) x y fx fy q ≤ 3 := ra_max_le _ fun i hi => (zW i (by omega) (hz i hi)).1
      have w32 : ∀ j, j < 3 → ra_w (ra_BA c fv v) x y fx fy q j ≤ c := fun j hj => ra_max_le _ fun i hi => ra_lift_le (zW i (by omega) (hz i hi)) (by omega) hj
      refine xm_widen (L := 0) (by decide) hc hD2 k3 w32 (hR2 he) zw (by omega) ?_
      intro wr3 wd3 hD3 hE3
      refine nm_r (nI_1 q) ?_
      refine ih (q + 1) (by omega) n _ _ _ _ _ _ _ _ _ _ _ (xv_I_w hI2 hE3) hD3 (fun i hi => ?_)
      by_cases z : i = q
      · subst z; exact he
      · exact hz i (by omega)
    · refine br_f he ?_
      have e1 := ra_AE_e (c := c) (fl := fv) (E := ra_BE c fv v) (R := ra_BA c fv v) hd (q := q) (by omega) hz he
      have := hp _ _ _ _ _ _ _ _ _ _ _ hI2.2.1 hI2.2.2 (fun z => absurd (e1.symm.trans z) he)
      rw [e1] at this
      exact this

theorem xj_0 {post : Int32 → SX → Prop} {c v fx fy sx sy K : Nat} {w : Nat → Nat} {x y : ra_A} {fv oa ol ov : Int32} {rk0 dm0 am0 xs0 ys0 xf0 yf0 fs0 fr0 wr0 wd0 rk dm am xs ys xf yf fs fr wr wd : Nat → Int32}
    (h8 : 8 ≤ c) (hc : c ≤ 32) (wx : ra_W c x) (wy : ra_W c y) (hfx : fx ≤ x.1) (hfy : fy ≤ y.1)
    (hd : ra_dis x y (if fx < fy then fx else fy) = false) (p0 : ra_pos x y fx fy = 0)
    (hsx : sx < 12) (hsy : sy < 12) (qx : xv_Q 0 sx) (qy : xv_Q 0 sy) (hx0 : ra_H rk0 dm0 am0 sx x) (hy0 : ra_H rk0 dm0 am0 sy y)
    (hp : ∀ rk' dm' am' xs' ys' xf' yf' fs' fr' wr' wd', (∀ N, N < 0 → xv_E N xs0 ys0 xf0 yf0 fs0 fr0 wr0 wd0 xs' ys' xf' yf' fs' fr' wr' wd') → (∀ j, xv_Q 0 j → ra_S rk0 dm0 am0 rk' dm' am' j) →
      (ra_AE c fv (ra_BE c fv v) (ra_BA c fv v) x y fx fy = 0 → ra_H rk' dm' am' (8 + 0) (ra_AA c fv (ra_BE c fv v) (ra_BA c fv v) x y fx fy)) → post (ra_AE c fv (ra_BE c fv v) (ra_BA c fv v) x y fx fy) (nI c, fv, oa, ol, ov, rk', dm', am', xs', ys', xf', yf', fs', fr', wr', wd'))
    (hI : xv_I 0 sx sy fx fy rk0 dm0 am0 xs0 ys0 xf0 yf0 fs0 fr0 wr0 wd0 rk dm am xs ys xf yf fs fr wr wd) (hD : xv_D wr wd 0 K w) (eK : K = (ra_S0 c fv (ra_BE c fv v) (ra_BA c fv v) x y fx fy).1) (k3 : K ≤ 3) (w32 : ∀ j, j < 3 → w j ≤ c)
    (ew : ∀ i, i < K → w (i + (3 - K)) = (ra_S0 c fv (ra_BE c fv v) (ra_BA c fv v) x y fx fy).2.1 i) : wX_applyOuter_66 post (nI c) fv oa ol ov rk dm am xs ys xf yf fs fr wr wd := by
  have hx := ra_H_S hx0 wx hc (hI.2.2 sx qx)
  have hy := ra_H_S hy0 wy hc (hI.2.2 sy qy)
  have hF := ra_F_le wx wy hfx hfy
  have e1 := ra_AE_0 (c := c) (fl := fv) (E := ra_BE c fv v) (R := ra_BA c fv v) hd p0
  rw [← eK] at e1
  unfold wX_applyOuter_66
  refine xm_shapeResult (L := 0) (by decide) h8 hc hI.1 hD k3 w32 hx hy wx wy hfx hfy hsx hsy qx qy ?_ ?_
  · intro h3
    rw [if_pos h3] at e1
    have := hp rk dm am xs ys xf yf fs fr wr wd hI.2.1 hI.2.2 (fun z => absurd (e1.symm.trans z) (by decide))
    rw [e1] at this
    exact this
  · intro h3 rk2 dm2 hr hdm hS
    have hI2 := xv_I_s (rk2 := rk2) (dm2 := dm2) (am2 := am) hI (fun j hj => hS j hj.2.2.2)
    rw [ra_lim_0 (G := fun i => w (i + (3 - K))) hF (fun i hi => w32 _ (by omega)) p0, if_neg (by decide)]
    rw [if_neg (by omega)] at e1
    have := hp _ _ _ _ _ _ _ _ _ _ _ hI2.2.1 hI2.2.2 (fun _ => ra_H_A0 (G := fun i => w (i + (3 - K))) p0 eK ew hr hdm)
    rw [e1] at this
    exact this

theorem xm_applyOuter {post : Int32 → SX → Prop} {c v sx sy : Nat} {x y : ra_A} {l r : Int32} {fv oa ol ov : Int32} {rk dm am xs ys xf yf fs fr wr wd : Nat → Int32} (hv : v ≤ 12) (h8 : 8 ≤ c) (hc : c ≤ 32) (wx : ra_W c x) (wy : ra_W c y)
    (hsx : sx < 12) (hsy : sy < 12) (qx : xv_Q 0 sx) (qy : xv_Q 0 sy) (hx0 : ra_H rk dm am sx x) (hy0 : ra_H rk dm am sy y)
    (hp : ∀ rk' dm' am' xs' ys' xf' yf' fs' fr' wr' wd', (∀ N, N < 0 → xv_E N xs ys xf yf fs fr wr wd xs' ys' xf' yf' fs' fr' wr' wd') → (∀ j, xv_Q 0 j → ra_S rk dm am rk' dm' am' j) →
      (ra_OE c fv v x y l r = 0 → ra_H rk' dm' am' (8 + 0) (ra_OA c fv v x y l r)) → post (ra_OE c fv v x y l r) (nI c, fv, oa, ol, ov, rk', dm', am', xs', ys', xf', yf', fs', fr', wr', wd')) : wpX_applyOuter post (nI c, fv, oa, ol, ov, rk, dm, am, xs, ys, xf, yf, fs, fr, wr, wd) (nI v) (nI sx) (nI sy) l r := by
  unfold ra_OE ra_OA at hp
  have hfx : x.1 - ra_eff l x.1 ≤ x.1 := Nat.sub_le _ _
  have hfy : y.1 - ra_eff r y.1 ≤ y.1 := Nat.sub_le _ _
  generalize efx : x.1 - ra_eff l x.1 = fx at hp hfx
  generalize efy : y.1 - ra_eff r y.1 = fy at hp hfy
  have hfit : 0 = 1 → x.1 - fx ≤ ra_dL v ∧ y.1 - fy ≤ ra_dR v := fun z => absurd z (by decide)
  unfold wpX_applyOuter
  refine xm_split (L := 0) (by decide) hc hsx hsy wx wy hx0 hy0 efx.symm efy.symm ?_ ?_
  · intro hd
    have e1 := ra_AE_d (c := c) (fl := fv) (E := ra_BE c fv v) (R := ra_BA c fv v) hd
    have := hp rk dm am xs ys xf yf fs fr wr wd (fun _ _ => xv_E_r) (fun _ _ => ra_S_r) (fun z => absurd (e1.symm.trans z) (by decide))
    rw [e1] at this
    exact br_f (by decide) this
  · intro hd xs1 ys1 xf1 yf1 fs1 fr1 wr1 wd1 hV hD hE
    refine br_t rfl ?_
    have hI : xv_I 0 sx sy fx fy rk dm am xs ys xf yf fs fr wr wd rk dm am xs1 ys1 xf1 yf1 fs1 fr1 wr1 wd1 := ⟨hV, fun N hN => hE N (Nat.ne_of_lt hN), fun _ _ => ra_S_r⟩
    have hF := xv_frame hx0 hy0 hfx hfy
    have fr3 := ra_fr_3 wx wy hfx hfy
    have hP := ra_pos_le hc wx wy hfx hfy
    have hokk := ra_B_ok (fl := fv) h8 hc hv
    have hsl : (if fy < fx then sx else sy) < 12 := by
      split
      · exact hsx
      · exact hsy
    rw [hV.2.2.2.2.1, hV.2.2.2.2.2]
    refine xm_product (f := 0) (d := ra_F x y fx fy) hsl (by decide) fr3 (fun i _ hi => hF i hi) ?_
    by_cases p0 : ra_pos x y fx fy = 0
    · refine br_t (by rw [Nat.sub_zero, show ra_prod (ra_F x y fx fy) 0 (ra_fr fx fy) = 0 from p0]; rfl) ?_
      refine xm_fillCells (L := 0) (by decide) hc hV hx0 hy0 wx wy hfx hfy hsx hsy qx qy ?_
      intro rk2 dm2 am2 hfc hS2
      have hI2 := xv_I_s hI (fun j hj => hS2 j hj.2.1 hj.2.2.1)
      by_cases hb : ra_size x fx ≤ c ∧ ra_size y fy ≤ c
      · rw [if_pos hb]
        refine br_f (by decide) ?_
        refine xb_0 hv h8 hc (ra_fc_W wx hb.1) (ra_fc_W wy hb.2) hfit (hfc hb).1 (hfc hb).2 ?_
        intro rk3 dm3 am3 xs3 ys3 xf3 yf3 fs3 fr3 wr3 wd3 hE3 hS3 hR3
        have hI3 := xv_I_g hI2 hE3 (fun j hj => hS3 j hj.1)
        have hD3 := xv_D_E (hE3 0 (Nat.le_refl _)) hD
        by_cases he : ra_BE c fv v (ra_fc fv x fx) (ra_fc fv y fy) = 0
        · refine br_t he ?_
          have es : ra_S0 c fv (ra_BE c fv v) (ra_BA c fv v) x y fx fy = ra_BA c fv v (ra_fc fv x fx) (ra_fc fv y fy) := by
            unfold ra_S0; rw [if_neg (by omega), if_pos he]
          have wz := hokk _ _ (ra_fc_W wx hb.1) (ra_fc_W wy hb.2) he
          refine xm_widen (L := 0) (by decide) hc hD3 (by decide) (fun j _ => Nat.zero_le _) (hR3 he) wz (by omega) ?_
          intro wr4 wd4 hD4 hE4
          refine xj_0 (v := v) h8 hc wx wy hfx hfy hd p0 hsx hsy qx qy hx0 hy0 hp (xv_I_w hI3 hE4) hD4 ?_ ?_ (fun j hj => ?_) (fun i hi => ?_)
          · rw [es]; split <;> omega
          · have := wz.1; split <;> omega
          · have := ra_lift_le wz (by omega) hj
            show (if 0 < ra_lift _ j then ra_lift _ j else 0) ≤ c
            split <;> omega
          · have w3 := wz.1
            have eK : (if 0 < (ra_BA c fv v (ra_fc fv x fx) (ra_fc fv y fy)).1 then (ra_BA c fv v (ra_fc fv x fx) (ra_fc fv y fy)).1 else 0) = (ra_BA c fv v (ra_fc fv x fx) (ra_fc fv y fy)).1 := by split <;> omega
            rw [eK] at hi ⊢
            rw [es]
            show (if 0 < ra_lift _ _ then ra_lift _ _ else 0) = _
            rw [ra_lift_hi w3 hi]
            split <;> omega
        · refine br_f he ?_
          have es : ra_S0 c fv (ra_BE c fv v) (ra_BA c fv v) x y fx fy = ra_sc 0 := by
            unfold ra_S0; rw [if_neg (by omega), if_neg he]
          exact xj_0 (v := v) h8 hc wx wy hfx hfy hd p0 hsx hsy qx qy hx0 hy0 hp hI3 hD3 (by rw [es]; rfl) (by decide) (fun j hj => Nat.zero_le _) (fun i hi => absurd hi (Nat.not_lt_zero i))
      · rw [if_neg hb]
        refine br_t rfl ?_
        have es : ra_S0 c fv (ra_BE c fv v) (ra_BA c fv v) x y fx fy = ra_sc 0 := by
          unfold ra_S0; rw [if_pos (by omega)]
        exact xj_0 (v := v) h8 hc wx wy hfx hfy hd p0 hsx hsy qx qy hx0 hy0 hp hI2 hD (by rw [es]; rfl) (by decide) (fun j hj => Nat.zero_le _) (fun i hi => absurd hi (Nat.not_lt_zero i))
    · have pp : 0 < ra_pos x y fx fy := Nat.pos_of_ne_zero p0
      refine br_f (show ¬ nI (ra_pos x y fx fy) = 0 from nI_ne0 pp (by omega)) ⟨_, xl1_0 hv h8 hc wx wy hfx hfy hfit hd rfl pp hsx hsy qx qy hx0 hy0 hp (ra_pos x y fx fy) 0 (Nat.zero_add _) 0 _ _ _ _ _ _ _ _ _ _ _ hI hD (fun i hi => absurd hi (Nat.not_lt_zero i))⟩

