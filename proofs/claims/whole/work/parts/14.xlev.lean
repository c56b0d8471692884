/-! X: the methods of a level -/
section
variable {c : Nat} {fv oa ol ov : Int32} {rk dm am xs ys xf yf fs fr wr wd : Nat → Int32}
theorem ra_num_pos {x y : ra_A} {fx fy q g : Nat} (hg : g ≤ ra_fr fx fy) (hq : q < ra_pos x y fx fy) : 0 < ra_prod (ra_F x y fx fy) g (ra_fr fx fy - g) := by
  have e := ra_prod_add (ra_F x y fx fy) 0 g (ra_fr fx fy - g)
  rw [Nat.add_sub_cancel' hg, Nat.zero_add] at e
  have p : 0 < ra_prod (ra_F x y fx fy) 0 (ra_fr fx fy) := Nat.lt_of_le_of_lt (Nat.zero_le q) hq
  rw [e] at p
  exact Nat.pos_of_mul_pos_left p
theorem ra_num_b {c : Nat} {x y : ra_A} {fx fy g : Nat} (hc : c ≤ 32) (wx : ra_W c x) (wy : ra_W c y) (hfx : fx ≤ x.1) (hfy : fy ≤ y.1) : ra_prod (ra_F x y fx fy) g (ra_fr fx fy - g) ≤ 32768 := by
  have h3 := ra_fr_3 wx wy hfx hfy
  refine Nat.le_trans (ra_prod_le (b := 32) _ (fun i hi => ?_)) (ra_p32 (show ra_fr fx fy - g ≤ 3 by omega))
  exact Nat.le_trans (ra_F_le wx wy hfx hfy (g + i) (by omega)) hc
theorem xm_fetchCells {post : SX → Prop} {L q sx sy fx fy : Nat} {x y : ra_A} (hL : L < 2) (hc : c ≤ 32) (hV : xv_V xs ys xf yf fs fr L sx sy fx fy)
    (hx : ra_H rk dm am sx x) (hy : ra_H rk dm am sy y) (wx : ra_W c x) (wy : ra_W c y) (hfx : fx ≤ x.1) (hfy : fy ≤ y.1) (hd : ra_dis x y (if fx < fy then fx else fy) = false)
    (hq : q < ra_pos x y fx fy) (hsx : sx < 12) (hsy : sy < 12) (qx : xv_Q L sx) (qy : xv_Q L sy)
    (hp : ∀ rk' dm' am', ra_H rk' dm' am' (4 + L) (ra_cx x y fx fy q) → ra_H rk' dm' am' (6 + L) (ra_cy x y fx fy q) → (∀ j, j ≠ 4 + L → j ≠ 6 + L → ra_S rk dm am rk' dm' am' j) → post (nI c, fv, oa, ol, ov, rk', dm', am', xs, ys, xf, yf, fs, fr, wr, wd)) :
    wpX_fetchCells post (nI c, fv, oa, ol, ov, rk, dm, am, xs, ys, xf, yf, fs, fr, wr, wd) (nI L) (nI q) := by
  obtain ⟨v1, v2, v3, v4, v5, v6⟩ := hV
  have h3x := wx.1
  have h3y := wy.1
  have hpos := ra_pos_le hc wx wy hfx hfy
  have fr3 := ra_fr_3 wx wy hfx hfy
  have hF := xv_frame hx hy hfx hfy
  have hsl : (if fy < fx then sx else sy) < 12 := by split <;> assumption
  have gx := ra_fr_x fx fy
  have gy := ra_fr_y fx fy
  have bx := ra_num_b (g := fx) hc wx wy hfx hfy
  have bY := ra_num_b (g := fy) hc wx wy hfx hfy
  obtain ⟨-, x4, x6, -⟩ := qx
  obtain ⟨-, y4, y6, -⟩ := qy
  unfold wpX_fetchCells
  simp (disch := omega) only [nI_clamp, ra_inI, true_and, v1, v3, v4, ra_k4, ra_k6]
  refine xm_cellNumber hL v5 v6 hsl fr3 (by omega) hF (ra_num_pos gx hq) (by omega) (by omega) ?_
  refine xm_cellNumber hL v5 v6 hsl fr3 (by omega) hF (ra_num_pos gy hq) (by omega) (by omega) ?_
  refine xm_copyCell hc wx hx hsx (by omega) x4 hfx (ra_numx hd hq) ?_
  intro rk1 dm1 am1 h4 hS1
  dsimp only
  rw [v2, v4]
  refine xm_copyCell hc wy (ra_H_S hy wy hc (hS1 sy y4)) hsy (by omega) y6 hfy (ra_numy hd hq) ?_
  intro rk2 dm2 am2 h6 hS2
  exact hp rk2 dm2 am2 (ra_H_S h4 (ra_cx_W wx hfx hd hq) hc (hS2 _ (by omega))) h6 (fun j a b => ra_S_t (hS1 j a) (hS2 j b))
theorem xm_fillCells {post : Int32 → SX → Prop} {L sx sy fx fy : Nat} {x y : ra_A} (hL : L < 2) (hc : c ≤ 32) (hV : xv_V xs ys xf yf fs fr L sx sy fx fy)
    (hx : ra_H rk dm am sx x) (hy : ra_H rk dm am sy y) (wx : ra_W c x) (wy : ra_W c y) (hfx : fx ≤ x.1) (hfy : fy ≤ y.1)
    (hsx : sx < 12) (hsy : sy < 12) (qx : xv_Q L sx) (qy : xv_Q L sy)
    (hp : ∀ rk' dm' am', (ra_size x fx ≤ c ∧ ra_size y fy ≤ c → ra_H rk' dm' am' (4 + L) (ra_fc fv x fx) ∧ ra_H rk' dm' am' (6 + L) (ra_fc fv y fy)) → (∀ j, j ≠ 4 + L → j ≠ 6 + L → ra_S rk dm am rk' dm' am' j) →
      post (if ra_size x fx ≤ c ∧ ra_size y fy ≤ c then 1 else 0) (nI c, fv, oa, ol, ov, rk', dm', am', xs, ys, xf, yf, fs, fr, wr, wd)) :
    wpX_fillCells post (nI c, fv, oa, ol, ov, rk, dm, am, xs, ys, xf, yf, fs, fr, wr, wd) (nI L) := by
  obtain ⟨v1, v2, v3, v4, v5, v6⟩ := hV
  obtain ⟨-, x4, x6, -⟩ := qx
  obtain ⟨-, y4, y6, -⟩ := qy
  unfold wpX_fillCells
  simp (disch := omega) only [nI_clamp, ra_inI, true_and, v1, v3, ra_k4, ra_k6]
  refine xm_fillCell hc wx hx hsx (by omega) x4 hfx ?_
  intro rk1 dm1 am1 h4 hS1
  dsimp only
  rw [v2, v4]
  refine xm_fillCell hc wy (ra_H_S hy wy hc (hS1 sy y4)) hsy (by omega) y6 hfy ?_
  intro rk2 dm2 am2 h6 hS2
  have fin := hp rk2 dm2 am2 (fun z => ⟨ra_H_S (h4 z.1) (ra_fc_W wx z.1) hc (hS2 _ (by omega)), h6 z.2⟩) (fun j a b => ra_S_t (hS1 j a) (hS2 j b))
  by_cases a : ra_size x fx ≤ c
  · rw [if_pos a]
    refine br_f (by decide) ?_
    by_cases b : ra_size y fy ≤ c
    · rw [if_pos b]
      rw [if_pos ⟨a, b⟩] at fin
      exact br_f (by decide) fin
    · rw [if_neg b]
      rw [if_neg (fun z => b z.2)] at fin
      exact br_t rfl fin
  · rw [if_neg a]
    rw [if_neg (fun z => a z.1)] at fin
    exact br_t rfl fin
theorem xm_widen {post : SX → Prop} {L K : Nat} {w : Nat → Nat} {z : ra_A} (hL : L < 2) (hc : c ≤ 32) (hD : xv_D wr wd L K w) (k3 : K ≤ 3) (w32 : ∀ j, j < 3 → w j ≤ c)
    (hz : ra_H rk dm am (9 + L) z) (wz : ra_W c z) (h1 : 1 ≤ c)
    (hp : ∀ wr' wd', xv_D wr' wd' L (if K < z.1 then z.1 else K) (fun j => if w j < ra_lift z j then ra_lift z j else w j) →
      (∀ N, N ≠ L → wr' N = wr N ∧ ∀ i, i < 3 → wd' (N * 3 + i) = wd (N * 3 + i)) → post (nI c, fv, oa, ol, ov, rk, dm, am, xs, ys, xf, yf, fs, fr, wr', wd')) : wpX_widen post (nI c, fv, oa, ol, ov, rk, dm, am, xs, ys, xf, yf, fs, fr, wr, wd) (nI L) := by
  have z3 := wz.1
  have e9 : (8 : Int32) + nI L + 1 = nI (9 + L) := by rw [ra_k8, nI_1, show 8 + L + 1 = 9 + L by omega]
  have lp : ∀ wr', (∀ N, N ≠ L → wr' N = wr N) → wr' L = nI (if K < z.1 then z.1 else K) → ∃ n, wX_widen_36 post (nI L) (nI (9 + L)) (nI c) fv oa ol ov n 0 rk dm am xs ys xf yf fs fr wr' wd := by
    intro wr' o1 o2
    refine ra_loop0 (fun n i => wX_widen_36 post (nI L) (nI (9 + L)) (nI c) fv oa ol ov n (nI i) rk dm am xs ys xf yf fs fr wr' (ra_blk wd (L * 3) i (fun j => nI (if w j < ra_lift z j then ra_lift z j else w j)))) 3 (fun n => ?_) (fun n i hi ih => ?_) (fun n h => ?_)
    · simp only [wX_widen_36]
      refine br_t (by decide) (hp _ _ ⟨o2, fun i hi => ra_blk_in hi⟩ (fun N hN => ⟨o1 N hN, fun i hi => ra_blk_out (by omega)⟩))
    · have l32 := ra_lift_le wz h1 hi
      have v32 := w32 i hi
      simp (disch := omega) only [wX_widen_36, ra_m3, nI_add, nI_clamp, ra_inI, true_and, forall_eq, nI_1]
      refine br_f (by rw [ra_le3 (by omega)]; omega) ?_
      refine xm_liftedAxis (by omega) z3 hz hi ?_
      rw [ra_blk_out (by omega), hD.2 i hi]
      by_cases g : w i < ra_lift z i
      · refine br_f (nI_ge g (by omega)) ?_
        rw [ra_blk_s (by rw [if_pos g])]
        exact ih
      · refine br_t (nI_le (by omega) (by omega)) ?_
        have e : ra_blk wd (L * 3) (i + 1) (fun j => nI (if w j < ra_lift z j then ra_lift z j else w j)) = ra_blk wd (L * 3) i (fun j => nI (if w j < ra_lift z j then ra_lift z j else w j)) := funext fun j => by
          by_cases y : j = L * 3 + i
          · subst y
            rw [ra_blk_in (Nat.lt_succ_self i), ra_blk_out (by omega), if_neg g, hD.2 i hi]
          · by_cases u : L * 3 ≤ j ∧ j < L * 3 + i
            · obtain ⟨k, rfl⟩ : ∃ k, j = L * 3 + k := ⟨j - L * 3, by omega⟩
              rw [ra_blk_in (by omega), ra_blk_in (by omega)]
            · rw [ra_blk_out (by omega), ra_blk_out (by omega)]
        rw [e] at ih
        exact ih
    · rw [ra_blk_0] at h
      exact h
  unfold wpX_widen
  dsimp only
  rw [e9]
  refine nm_e ?_
  rw [nI_clamp (by omega), nI_clamp (by omega), hz.1, hD.1]
  refine ⟨vp_in_nI (by omega) (by decide), vp_in_nI hL (by decide), ?_⟩
  by_cases g : K < z.1
  · refine br_f (nI_ge g (by omega)) ⟨vp_in_nI (by omega) (by decide), vp_in_nI hL (by decide), nm_e ?_⟩
    refine lp _ (fun N hN => pk_un hN) ?_
    rw [pk_us, if_pos g]
  · refine br_t (nI_le (by omega) (by omega)) (lp wr (fun _ _ => rfl) ?_)
    rw [hD.1, if_neg g]
theorem xm_shapeResult {post : Int32 → SX → Prop} {L K sx sy fx fy : Nat} {w : Nat → Nat} {x y : ra_A} (hL : L < 2) (h8 : 8 ≤ c) (hc : c ≤ 32) (hV : xv_V xs ys xf yf fs fr L sx sy fx fy)
    (hD : xv_D wr wd L K w) (k3 : K ≤ 3) (w32 : ∀ j, j < 3 → w j ≤ c)
    (hx : ra_H rk dm am sx x) (hy : ra_H rk dm am sy y) (wx : ra_W c x) (wy : ra_W c y) (hfx : fx ≤ x.1) (hfy : fy ≤ y.1) (hsx : sx < 12) (hsy : sy < 12) (qx : xv_Q L sx) (qy : xv_Q L sy)
    (h1 : 3 < ra_fr fx fy + K → post (-4) (nI c, fv, oa, ol, ov, rk, dm, am, xs, ys, xf, yf, fs, fr, wr, wd))
    (h2 : ra_fr fx fy + K ≤ 3 → ∀ rk' dm', rk' (8 + L) = nI (ra_fr fx fy + K) → (∀ i, i < ra_fr fx fy + K → dm' ((8 + L) * 3 + i) = nI (if i < ra_fr fx fy then ra_F x y fx fy i else w (i - ra_fr fx fy + (3 - K)))) →
      (∀ j, j ≠ 8 + L → ra_S rk dm am rk' dm' am j) →
      post (if ra_lim c (fun i => if i < ra_fr fx fy then ra_F x y fx fy i else w (i - ra_fr fx fy + (3 - K))) (ra_fr fx fy + K) = true then -4 else 0) (nI c, fv, oa, ol, ov, rk', dm', am, xs, ys, xf, yf, fs, fr, wr, wd)) :
    wpX_shapeResult post (nI c, fv, oa, ol, ov, rk, dm, am, xs, ys, xf, yf, fs, fr, wr, wd) (nI L) := by
  obtain ⟨v1, v2, v3, v4, v5, v6⟩ := hV
  have fr3 := ra_fr_3 wx wy hfx hfy
  have hF := xv_frame hx hy hfx hfy
  have hFc := ra_F_le wx wy hfx hfy
  have hsl : (if fy < fx then sx else sy) < 12 := by split <;> assumption
  have hs8 : (if fy < fx then sx else sy) ≠ 8 + L := by
    split
    · exact qx.2.2.2
    · exact qy.2.2.2
  generalize (if fy < fx then sx else sy) = sl at v5 hF hsl hs8
  unfold wpX_shapeResult
  dsimp only
  rw [ra_k8, nI_clamp (by omega), v6, hD.1]
  refine nm_e ⟨vp_in_nI hL (by decide), nm_e ⟨vp_in_nI hL (by decide), nm_e ?_⟩⟩
  rw [nI_add]
  by_cases h3 : ra_fr fx fy + K ≤ 3
  · refine br_t (by rw [ra_gt3 (by omega)]; exact h3) ?_
    have key : ∃ n, wX_shapeResult_82 post (nI L) (nI (8 + L)) (nI (ra_fr fx fy)) (nI K) (nI (3 - K)) (nI c) fv oa ol ov n 0 rk (ra_blk dm ((8 + L) * 3) (ra_fr fx fy) (fun i => nI (ra_F x y fx fy i))) am xs ys xf yf fs fr wr wd := by
      refine ra_loop0 (fun n i => wX_shapeResult_82 post (nI L) (nI (8 + L)) (nI (ra_fr fx fy)) (nI K) (nI (3 - K)) (nI c) fv oa ol ov n (nI i) rk (ra_blk dm ((8 + L) * 3) (ra_fr fx fy + i) (fun i => nI (if i < ra_fr fx fy then ra_F x y fx fy i else w (i - ra_fr fx fy + (3 - K))))) am xs ys xf yf fs fr wr wd) K (fun n => ?_) (fun n i hi ih => ?_) (fun n h => ?_)
      · simp (disch := omega) only [wX_shapeResult_82, nI_add, nI_clamp, ra_inI, true_and, forall_eq]
        refine br_t (nI_le (Nat.le_refl _) (by omega)) ?_
        refine xm_limitError (r := ra_fr fx fy + K) (d := fun i => if i < ra_fr fx fy then ra_F x y fx fy i else w (i - ra_fr fx fy + (3 - K))) hc (by omega) h3 pk_us (fun i hi => ra_blk_in hi) (fun i hi => ?_) ?_
        · show (if i < ra_fr fx fy then ra_F x y fx fy i else w (i - ra_fr fx fy + (3 - K))) < 2 ^ 31
          by_cases e : i < ra_fr fx fy
          · rw [if_pos e]; have := hFc i e; omega
          · rw [if_neg e]; have := w32 (i - ra_fr fx fy + (3 - K)) (by omega); omega
        · exact h2 h3 _ _ pk_us (fun i hi => ra_blk_in hi) (fun j hj => ⟨pk_un hj, fun i hi => ra_blk_out (by omega), fun _ _ => rfl⟩)
      · simp (disch := omega) only [wX_shapeResult_82, ra_m3, nI_add, nI_clamp, ra_inI, true_and, forall_eq, nI_1]
        refine br_f (nI_ge hi (by omega)) ?_
        rw [show L * 3 + (3 - K) + i = L * 3 + ((3 - K) + i) by omega, hD.2 (3 - K + i) (by omega), Nat.add_assoc ((8 + L) * 3), ra_blk_s (by
          show nI (w (3 - K + i)) = nI (if ra_fr fx fy + i < ra_fr fx fy then _ else w (ra_fr fx fy + i - ra_fr fx fy + (3 - K)))
          rw [if_neg (by omega), show ra_fr fx fy + i - ra_fr fx fy + (3 - K) = 3 - K + i by omega])]
        exact ih
      · have e : ra_blk dm ((8 + L) * 3) (ra_fr fx fy + 0) (fun i => nI (if i < ra_fr fx fy then ra_F x y fx fy i else w (i - ra_fr fx fy + (3 - K)))) = ra_blk dm ((8 + L) * 3) (ra_fr fx fy) (fun i => nI (ra_F x y fx fy i)) := funext fun j => by
          by_cases u : (8 + L) * 3 ≤ j ∧ j < (8 + L) * 3 + ra_fr fx fy
          · obtain ⟨k, rfl⟩ : ∃ k, j = (8 + L) * 3 + k := ⟨j - (8 + L) * 3, by omega⟩
            rw [ra_blk_in (by omega), ra_blk_in (by omega), if_pos (by omega)]
          · rw [ra_blk_out (by omega), ra_blk_out (by omega)]
        rw [e] at h
        exact h
    refine ra_loop0 (fun n i => wX_shapeResult_34 post (nI L) (nI (8 + L)) (nI (ra_fr fx fy)) (nI K) (nI c) fv oa ol ov n (nI i) rk (ra_blk dm ((8 + L) * 3) i (fun i => nI (ra_F x y fx fy i))) am xs ys xf yf fs fr wr wd) (ra_fr fx fy) (fun n => ?_) (fun n i hi ih => ?_) (fun n h => ?_)
    · simp only [wX_shapeResult_34]
      refine br_t (nI_le (Nat.le_refl _) (by omega)) (nm_r (pk_sub (a := 3) k3) key)
    · simp (disch := omega) only [wX_shapeResult_34, v5, ra_m3, nI_add, nI_clamp, ra_inI, true_and, forall_eq, nI_1]
      refine br_f (nI_ge hi (by omega)) ?_
      rw [ra_blk_out (by omega), hF i hi, ra_blk_s rfl]
      exact ih
    · rw [ra_blk_0] at h
      exact h
  · exact br_f (by rw [ra_gt3 (by omega)]; exact h3) (h1 (by omega))
end
