/-! X: split, placeCell -/
section
variable {c : Nat} {fv oa ol ov : Int32} {rk dm am xs ys xf yf fs fr wr wd : Nat → Int32}
theorem xm_split {post : Int32 → SX → Prop} {L sx sy : Nat} {x y : ra_A} {l r : Int32} (hL : L < 2) (hc : c ≤ 32) (hsx : sx < 12) (hsy : sy < 12) (wx : ra_W c x) (wy : ra_W c y)
    (hx : ra_H rk dm am sx x) (hy : ra_H rk dm am sy y) {fx fy : Nat} (efx : fx = x.1 - ra_eff l x.1) (efy : fy = y.1 - ra_eff r y.1)
    (h1 : ra_dis x y (if fx < fy then fx else fy) = true → post (-1) (nI c, fv, oa, ol, ov, rk, dm, am, xs, ys, xf, yf, fs, fr, wr, wd))
    (h2 : ra_dis x y (if fx < fy then fx else fy) = false → ∀ xs' ys' xf' yf' fs' fr' wr' wd', xv_V xs' ys' xf' yf' fs' fr' L sx sy fx fy → xv_D wr' wd' L 0 (fun _ => 0) →
      (∀ N, N ≠ L → xv_E N xs ys xf yf fs fr wr wd xs' ys' xf' yf' fs' fr' wr' wd') → post 0 (nI c, fv, oa, ol, ov, rk, dm, am, xs', ys', xf', yf', fs', fr', wr', wd')) :
    wpX_split post (nI c, fv, oa, ol, ov, rk, dm, am, xs, ys, xf, yf, fs, fr, wr, wd) (nI L) (nI sx) (nI sy) l r := by
  have x3 := wx.1
  have y3 := wy.1
  have ex := ra_eff_le l x.1 (by omega)
  have ey := ra_eff_le r y.1 (by omega)
  have main : ∃ n, wX_split_61 post (nI L) (nI sx) (nI sy) (nI fx) (nI fy) (nI (if fx < fy then fx else fy)) (nI c) fv oa ol ov rk dm am xs ys xf yf fs fr wr wd n 0 := by
    have hm : (if fx < fy then fx else fy) ≤ fx ∧ (if fx < fy then fx else fy) ≤ fy := by split <;> omega
    generalize hmm : (if fx < fy then fx else fy) = m at hm h1 h2
    have key : ∀ k i, i + k = m → (∀ j, j < i → x.2.1 j = y.2.1 j) → ∀ n, wX_split_61 post (nI L) (nI sx) (nI sy) (nI fx) (nI fy) (nI m) (nI c) fv oa ol ov rk dm am xs ys xf yf fs fr wr wd (n + k + 1) (nI i) := by
      intro k
      induction k with
      | zero =>
        intro i hi h n
        have hi' : i = m := by omega
        subst hi'
        have hdis : ra_dis x y i = false := ra_any_f i (fun j hj => decide_eq_false (fun z => z (h j hj)))
        have fin : ∀ fs', (∀ N, N ≠ L → fs' N = fs N) → fs' L = nI (if fy < fx then sx else sy) → ∀ z : Nat, z = ra_fr fx fy →
            wX_split_168 post (nI L) (nI z) (nI L) (nI c) fv oa ol ov rk dm am (upd xs L (nI sx)) (upd ys L (nI sy)) (upd xf L (nI fx)) (upd yf L (nI fy)) fs' fr wr wd := by
          intro fs' o1 o2 z ez
          subst ez
          unfold wX_split_168
          simp (disch := omega) only [nI_clamp, ra_inI, true_and, forall_eq]
          refine ra_loop0 (fun n i => wX_split_179 post (nI L) (nI c) fv oa ol ov n (nI i) rk dm am (upd xs L (nI sx)) (upd ys L (nI sy)) (upd xf L (nI fx)) (upd yf L (nI fy)) fs' (upd fr L (nI (ra_fr fx fy))) (upd wr L 0) (ra_blk wd (L * 3) i (fun _ => 0))) 3 (fun n => ?_) (fun n i hi ih => ?_) (fun n h => ?_)
          · simp only [wX_split_179]
            refine br_t (by decide) (h2 hdis _ _ _ _ _ _ _ _ ⟨pk_us, pk_us, pk_us, pk_us, o2, pk_us⟩ ⟨pk_us, fun i hi => ra_blk_in hi⟩ (fun N hN => ⟨pk_un hN, pk_un hN, pk_un hN, pk_un hN, o1 N hN, pk_un hN, pk_un hN, fun i hi => ra_blk_out (by omega)⟩))
          · simp (disch := omega) only [wX_split_179, ra_m3, nI_add, nI_clamp, ra_inI, true_and, forall_eq, nI_1]
            refine br_f (by rw [ra_le3 (by omega)]; omega) ?_
            rw [ra_blk_s rfl]
            exact ih
          · rw [ra_blk_0] at h
            exact h
        rw [wX_split_61]
        refine br_t (nI_le (Nat.le_refl _) (by omega)) ?_
        simp (disch := omega) only [nI_clamp, ra_inI, true_and, forall_eq]
        by_cases g : fy < fx
        · refine br_f (nI_ge g (by omega)) ?_
          unfold wX_split_148
          simp (disch := omega) only [nI_clamp, ra_inI, true_and, forall_eq]
          refine br_f (nI_ge g (by omega)) (fin _ (fun N hN => pk_un hN) ?_ fx ?_)
          · rw [pk_us, if_pos g]
          · unfold ra_fr; rw [if_pos g]
        · refine br_t (nI_le (by omega) (by omega)) ?_
          unfold wX_split_148
          simp (disch := omega) only [nI_clamp, ra_inI, true_and, forall_eq]
          refine br_t (nI_le (by omega) (by omega)) (fin _ (fun N hN => pk_un hN) ?_ fy ?_)
          · rw [pk_us, if_neg g]
          · unfold ra_fr; rw [if_neg g]
      | succ k ih =>
        intro i hi h n
        have xi := wx.2.1 i (by omega)
        have yi := wy.2.1 i (by omega)
        rw [wX_split_61]
        simp (disch := omega) only [ra_m3, nI_add, nI_clamp, ra_inI, true_and, hx.2.1 i (by omega), hy.2.1 i (by omega), forall_eq, nI_1]
        refine br_f (nI_ge (by omega) (by omega)) ?_
        by_cases g : x.2.1 i = y.2.1 i
        · refine br_t (by rw [g]) (ih (i + 1) (by omega) (fun j hj => ?_) n)
          by_cases z : j = i
          · subst z; exact g
          · exact h j (by omega)
        · refine br_f (fun z => g ((nI_eq (by omega) (by omega)).mp z)) (h1 (ra_any_t m i (by omega) (decide_eq_true g)))
    exact ⟨_, key m 0 (Nat.zero_add m) (fun j hj => absurd hj (Nat.not_lt_zero j)) 0⟩
  unfold wpX_split
  dsimp only
  rw [nI_clamp (by omega), nI_clamp (by omega), hx.1, hy.1]
  refine ⟨vp_in_nI hsx (by decide), vp_in_nI hsx (by decide), ?_⟩
  refine xm_cellRank x3 ?_
  refine nm_r (e' := nI fx) (by rw [efx]; exact pk_sub ex) ?_
  refine ⟨vp_in_nI hsy (by decide), vp_in_nI hsy (by decide), ?_⟩
  refine xm_cellRank y3 ?_
  refine nm_r (e' := nI fy) (by rw [efy]; exact pk_sub ey) ?_
  by_cases g : fx < fy
  · rw [if_pos g] at main
    exact br_f (nI_ge g (by omega)) main
  · rw [if_neg g] at main
    exact br_t (nI_le (by omega) (by omega)) main
theorem ra_89 (L : Nat) : 8 + L + 1 = 9 + L := by omega
theorem xm_placeCell {post : SX → Prop} {L K q M : Nat} {w : Nat → Nat} {z : ra_A} (hL : L < 2) (hc : c ≤ 32) (hD : xv_D wr wd L K w) (hz : ra_H rk dm am (9 + L) z) (wz : ra_W c z) (w32 : ∀ j, j < 3 → w j ≤ c)
    (eM : M = w 0 * w 1 * w 2) (hM : q * M + M ≤ 32) (hq : q < 2 ^ 31)
    (hp : post (nI c, fv, oa, ol, ov, rk, dm, ra_blk am ((8 + L) * 32 + q * M) M (fun i => ra_pl fv (w 1) (w 2) z i), xs, ys, xf, yf, fs, fr, wr, wd)) : wpX_placeCell post (nI c, fv, oa, ol, ov, rk, dm, am, xs, ys, xf, yf, fs, fr, wr, wd) (nI L) (nI q) := by
  have z3 := wz.1
  have a0 := w32 0 (by decide)
  have a1 := w32 1 (by decide)
  have a2 := w32 2 (by decide)
  have d0 : wd (L * 3) = nI (w 0) := hD.2 0 (by decide)
  have d1 := hD.2 1 (by decide)
  have d2 := hD.2 2 (by decide)
  have l0 : ra_lift z 0 < 2 ^ 31 := by
    unfold ra_lift
    split
    · omega
    · have := wz.2.1 (0 - (3 - z.1)) (by omega); omega
  have l1 : ra_lift z 1 < 2 ^ 31 := by
    unfold ra_lift
    split
    · omega
    · have := wz.2.1 (1 - (3 - z.1)) (by omega); omega
  have l2 : ra_lift z 2 < 2 ^ 31 := by
    unfold ra_lift
    split
    · omega
    · have := wz.2.1 (2 - (3 - z.1)) (by omega); omega
  have hin : ∀ i j k, i < ra_lift z 0 → j < ra_lift z 1 → k < ra_lift z 2 → (i * ra_lift z 1 + j) * ra_lift z 2 + k < ra_cnt z := fun i j k hi hj hk => by
    rw [← ra_lift_p z3]; exact ra_in3 hi hj hk
  unfold wpX_placeCell
  simp (disch := omega) only [ra_k8, ra_89, ra_m3, ra_m32, nI_1, ra_a2, nI_clamp, ra_inI, true_and, forall_eq, d0, d1, d2]
  refine xm_liftedAxis (i := 0) (by omega) z3 hz (by decide) ?_
  refine xm_liftedAxis (i := 1) (by omega) z3 hz (by decide) ?_
  refine xm_liftedAxis (i := 2) (by omega) z3 hz (by decide) ?_
  rw [pk_mul, pk_mul, pk_mul, nI_add, show q * w 0 * w 1 * w 2 = q * M by rw [eM, Nat.mul_assoc, Nat.mul_assoc, Nat.mul_assoc]]
  generalize hB : (8 + L) * 32 + q * M = B at hp ⊢
  have hB2 : B + M ≤ (8 + L) * 32 + 32 := by omega
  have hB3 : (8 + L) * 32 ≤ B := by omega
  refine ra_loop0 (fun n i => wX_placeCell_88 post (nI (9 + L)) (nI (w 0)) (nI (w 1)) (nI (w 2)) (nI (ra_lift z 0)) (nI (ra_lift z 1)) (nI (ra_lift z 2)) (nI B) (nI c) fv oa ol ov n (nI i) rk dm (ra_blk am B (i * w 1 * w 2) (fun i => ra_pl fv (w 1) (w 2) z i)) xs ys xf yf fs fr wr wd) (w 0) (fun n => ?_) (fun m i hi ih => ?_) (fun n h => ?_)
  · simp only [wX_placeCell_88]
    rw [← eM]
    exact br_t (nI_le (Nat.le_refl _) (by omega)) hp
  · simp only [wX_placeCell_88]
    refine br_f (nI_ge hi (by omega)) ?_
    refine ra_loop0 (fun n j => wX_placeCell_98 post (wX_placeCell_88 post (nI (9 + L)) (nI (w 0)) (nI (w 1)) (nI (w 2)) (nI (ra_lift z 0)) (nI (ra_lift z 1)) (nI (ra_lift z 2)) (nI B) (nI c) fv oa ol ov m) (nI (9 + L)) (nI (w 0)) (nI (w 1)) (nI (w 2)) (nI (ra_lift z 0)) (nI (ra_lift z 1)) (nI (ra_lift z 2)) (nI B) (nI i) (nI c) fv oa ol ov n (nI j) rk dm (ra_blk am B ((i * w 1 + j) * w 2) (fun i => ra_pl fv (w 1) (w 2) z i)) xs ys xf yf fs fr wr wd) (w 1) (fun n => ?_) (fun m2 j hj ih2 => ?_) (fun n h => ?_)
    · simp only [wX_placeCell_98, nI_1, forall_eq]
      refine br_t (nI_le (Nat.le_refl _) (by omega)) ?_
      rw [show i * w 1 + w 1 = (i + 1) * w 1 by rw [Nat.succ_mul]]
      exact ih
    · simp only [wX_placeCell_98]
      refine br_f (nI_ge hj (by omega)) ?_
      refine ra_loop0 (fun n k => wX_placeCell_108 post (wX_placeCell_88 post (nI (9 + L)) (nI (w 0)) (nI (w 1)) (nI (w 2)) (nI (ra_lift z 0)) (nI (ra_lift z 1)) (nI (ra_lift z 2)) (nI B) (nI c) fv oa ol ov m) (wX_placeCell_98 post (wX_placeCell_88 post (nI (9 + L)) (nI (w 0)) (nI (w 1)) (nI (w 2)) (nI (ra_lift z 0)) (nI (ra_lift z 1)) (nI (ra_lift z 2)) (nI B) (nI c) fv oa ol ov m) (nI (9 + L)) (nI (w 0)) (nI (w 1)) (nI (w 2)) (nI (ra_lift z 0)) (nI (ra_lift z 1)) (nI (ra_lift z 2)) (nI B) (nI i) (nI c) fv oa ol ov m2) (nI (9 + L)) (nI (w 0)) (nI (w 1)) (nI (w 2)) (nI (ra_lift z 0)) (nI (ra_lift z 1)) (nI (ra_lift z 2)) (nI B) (nI i) (nI j) (nI c) fv oa ol ov n (nI k) rk dm (ra_blk am B ((i * w 1 + j) * w 2 + k) (fun i => ra_pl fv (w 1) (w 2) z i)) xs ys xf yf fs fr wr wd) (w 2) (fun n => ?_) (fun n k hk ih3 => ?_) (fun n h => ?_)
      · simp only [wX_placeCell_108, nI_1, forall_eq]
        refine br_t (nI_le (Nat.le_refl _) (by omega)) ?_
        rw [show (i * w 1 + j) * w 2 + w 2 = (i * w 1 + (j + 1)) * w 2 by rw [← Nat.add_assoc, Nat.succ_mul]]
        exact ih2
      · have ht : (i * w 1 + j) * w 2 + k < M := by rw [eM]; exact ra_in3 hi hj hk
        have pj := ra_pl_join (fl := fv) (z := z) (i := i) hj hk
        simp only [wX_placeCell_108]
        refine br_f (nI_ge hk (by omega)) ?_
        by_cases g0 : i < ra_lift z 0
        · refine br_f (nI_ge g0 l0) ?_
          by_cases g1 : j < ra_lift z 1
          · refine br_f (nI_ge g1 l1) ?_
            by_cases g2 : k < ra_lift z 2
            · refine br_f (nI_ge g2 l2) ?_
              have hcn := hin i j k g0 g1 g2
              have hcc := wz.2.2
              rw [if_pos ⟨g0, g1, g2⟩] at pj
              unfold wX_placeCell_141
              simp (disch := omega) only [ra_m32, pk_mul, nI_add, nI_1, nI_clamp, ra_inI, true_and, forall_eq]
              refine br_f (by decide) ?_
              rw [ra_blk_out (by omega), Nat.add_assoc B, Nat.add_assoc ((9 + L) * 32), hz.2.2 _ hcn, ra_blk_s pj.symm]
              exact ih3
            · refine br_t (nI_le (by omega) (by omega)) ?_
              rw [if_neg (fun h => g2 h.2.2)] at pj
              unfold wX_placeCell_140 wX_placeCell_141
              simp (disch := omega) only [pk_mul, nI_add, nI_1, nI_clamp, ra_inI, true_and, forall_eq]
              refine br_t True.intro ?_
              rw [Nat.add_assoc B, ra_blk_s pj.symm]
              exact ih3
          · refine br_t (nI_le (by omega) (by omega)) ?_
            rw [if_neg (fun h => g1 h.2.1)] at pj
            unfold wX_placeCell_140 wX_placeCell_141
            simp (disch := omega) only [pk_mul, nI_add, nI_1, nI_clamp, ra_inI, true_and, forall_eq]
            refine br_t True.intro ?_
            rw [Nat.add_assoc B, ra_blk_s pj.symm]
            exact ih3
        · refine br_t (nI_le (by omega) (by omega)) ?_
          rw [if_neg (fun h => g0 h.1)] at pj
          unfold wX_placeCell_140 wX_placeCell_141
          simp (disch := omega) only [pk_mul, nI_add, nI_1, nI_clamp, ra_inI, true_and, forall_eq]
          refine br_t True.intro ?_
          rw [Nat.add_assoc B, ra_blk_s pj.symm]
          exact ih3
      · exact h
    · exact h
  · rw [Nat.zero_mul, Nat.zero_mul, ra_blk_0] at h
    exact h
end
