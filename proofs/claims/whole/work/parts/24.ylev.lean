/-! the reference: a level's methods -/
section
variable {c : Nat} {fv oa ol ov : Int32} {rk dm am lx ly lm lfx lfy lfr lp lk lc lf lM : Nat → Int32}
theorem ym_setup {post : Int32 → SY → Prop} {L sx sy mon fx fy : Nat} {x y : ra_A} {l r : Int32} (hL : L < 2) (hc : c ≤ 32) (hsx : sx < 11) (hsy : sy < 11) (wx : ra_W c x) (wy : ra_W c y) (hm : mon ≤ 1)
    (hx : mon = 0 → ra_H rk dm am sx x) (hy : ra_H rk dm am sy y) (efx : mon = 0 → fx = x.1 - ra_eff l x.1) (ef0 : mon ≠ 0 → fx = 0) (efy : fy = y.1 - ra_eff r y.1)
    (h1 : ra_dis x y (if fx < fy then fx else fy) = true → ∀ rk' dm' am' lx' ly' lm' lfx' lfy' lfr' lp' lk' lc' lf' lM', (∀ N, N ≠ L → yv_E N lx ly lm lfx lfy lfr lp lk lc lf lM lx' ly' lm' lfx' lfy' lfr' lp' lk' lc' lf' lM') → rk' = rk → dm' = dm → am' = am → post (-1) (nI c, fv, oa, ol, ov, rk', dm', am', lx', ly', lm', lfx', lfy', lfr', lp', lk', lc', lf', lM'))
    (h2 : ra_dis x y (if fx < fy then fx else fy) = false → ∀ rk' dm' am' lx' ly' lm' lfx' lfy' lfr' lp' lk' lc' lf' lM', yv_V lx' ly' lm' lfx' lfy' lfr' lp' lf' L sx sy mon fx fy (ra_F x y fx fy) (ra_pos x y fx fy) →
      (∀ N, N ≠ L → yv_E N lx ly lm lfx lfy lfr lp lk lc lf lM lx' ly' lm' lfx' lfy' lfr' lp' lk' lc' lf' lM') → rk' = rk → dm' = dm → am' = am → post 0 (nI c, fv, oa, ol, ov, rk', dm', am', lx', ly', lm', lfx', lfy', lfr', lp', lk', lc', lf', lM')) :
    wpY_setup post (nI c, fv, oa, ol, ov, rk, dm, am, lx, ly, lm, lfx, lfy, lfr, lp, lk, lc, lf, lM) (nI L) (nI sx) (nI sy) l r (nI mon) := by
  have x3 := wx.1
  have y3 := wy.1
  have ey := ra_eff_le r y.1 (by omega)
  have ex := ra_eff_le l x.1 (by omega)
  have fx3 : fx ≤ 3 := by
    by_cases m : mon = 0
    · rw [efx m]; omega
    · rw [ef0 m]; omega
  have main : wY_setup_72 post (nI L) (nI sx) (nI sy) (nI fy) (nI fx) (nI c) fv oa ol ov rk dm am (upd lx L (nI sx)) (upd ly L (nI sy)) (upd lm L (nI mon)) lfx lfy lfr lp lk lc lf lM := by
    unfold wY_setup_72
    simp (disch := omega) only [nI_clamp, ra_inI, true_and, forall_eq]
    have fin : ra_dis x y (if fx < fy then fx else fy) = false → wY_setup_153 post (nI L) (nI sx) (nI sy) (nI fy) (nI fx) (nI c) fv oa ol ov rk dm am (upd lx L (nI sx)) (upd ly L (nI sy)) (upd lm L (nI mon)) (upd lfx L (nI fx)) (upd lfy L (nI fy)) lfr lp lk lc lf lM := by
      intro hdis
      have lp : ∀ big : Nat, big < 11 → (∀ i, i < ra_fr fx fy → dm (big * 3 + i) = nI (ra_F x y fx fy i)) → wY_setup_181 post (nI L) (nI big) (nI (ra_fr fx fy)) (nI c) fv oa ol ov rk dm am (upd lx L (nI sx)) (upd ly L (nI sy)) (upd lm L (nI mon)) (upd lfx L (nI fx)) (upd lfy L (nI fy)) lfr lp lk lc lf lM := by
        intro big hb hF
        have fr3 : ra_fr fx fy ≤ 3 := by unfold ra_fr; split <;> omega
        unfold wY_setup_181
        simp (disch := omega) only [nI_clamp, ra_inI, true_and, forall_eq]
        refine ra_loop0 (fun n i => wY_setup_197 post (nI L) (nI big) (nI (ra_fr fx fy)) (nI c) fv oa ol ov n (nI (ra_prod (ra_F x y fx fy) 0 i)) (nI i) rk dm am (upd lx L (nI sx)) (upd ly L (nI sy)) (upd lm L (nI mon)) (upd lfx L (nI fx)) (upd lfy L (nI fy)) (upd lfr L (nI (ra_fr fx fy))) lp lk lc (ra_blk lf (L * 3) i (fun i => nI (ra_F x y fx fy i))) lM) (ra_fr fx fy) (fun n => ?_) (fun n i hi ih => ?_) (fun n h => ?_)
        · simp (disch := omega) only [wY_setup_197, nI_clamp, ra_inI, true_and, forall_eq]
          refine br_t (nI_le (Nat.le_refl _) (by omega)) ?_
          exact h2 hdis _ _ _ _ _ _ _ _ _ _ _ _ _ _ ⟨pk_us, pk_us, pk_us, pk_us, pk_us, pk_us, pk_us, fun i hi => ra_blk_in hi⟩
            (fun N hN => ⟨pk_un hN, pk_un hN, pk_un hN, pk_un hN, pk_un hN, pk_un hN, pk_un hN, rfl, rfl, fun i hi => ra_blk_out (by omega), fun _ _ => rfl⟩) rfl rfl rfl
        · simp (disch := omega) only [wY_setup_197, ra_m3, nI_add, nI_clamp, ra_inI, true_and, forall_eq, nI_1, hF i hi, pk_mul]
          refine br_f (nI_ge hi (by omega)) (br_f (by rw [ra_le3 (by omega)]; omega) ?_)
          rw [ra_prod, Nat.zero_add] at ih
          rw [ra_blk_s rfl]
          exact ih
        · rw [ra_blk_0] at h
          exact h
      unfold wY_setup_153 wY_setup_165
      by_cases g : fy < fx
      · have m0 : mon = 0 := by
          by_cases m : mon = 0
          · exact m
          · have := ef0 m; omega
        refine br_f (nI_ge g (by omega)) (br_f (nI_ge g (by omega)) ?_)
        have := lp sx hsx (fun i hi => by
          unfold ra_fr at hi; unfold ra_F
          rw [if_pos g] at hi ⊢
          exact (hx m0).2.1 i (by have := efx m0; omega))
        unfold ra_fr at this
        rw [if_pos g] at this
        exact this
      · refine br_t (nI_le (by omega) (by omega)) (br_t (nI_le (by omega) (by omega)) ?_)
        have := lp sy hsy (fun i hi => by
          unfold ra_fr at hi; unfold ra_F
          rw [if_neg g] at hi ⊢
          exact hy.2.1 i (by omega))
        unfold ra_fr at this
        rw [if_neg g] at this
        exact this
    have loop : ∃ n, wY_setup_107 post (nI L) (nI sx) (nI sy) (nI fy) (nI fx) (nI (if fx < fy then fx else fy)) (nI c) fv oa ol ov rk dm am (upd lx L (nI sx)) (upd ly L (nI sy)) (upd lm L (nI mon)) (upd lfx L (nI fx)) (upd lfy L (nI fy)) lfr lp lk lc lf lM n 0 := by
      have hmm : (if fx < fy then fx else fy) ≤ fx ∧ (if fx < fy then fx else fy) ≤ fy := by split <;> omega
      generalize (if fx < fy then fx else fy) = m at hmm h1 fin
      have key : ∀ k i, i + k = m → (∀ j, j < i → x.2.1 j = y.2.1 j) → ∀ n, wY_setup_107 post (nI L) (nI sx) (nI sy) (nI fy) (nI fx) (nI m) (nI c) fv oa ol ov rk dm am (upd lx L (nI sx)) (upd ly L (nI sy)) (upd lm L (nI mon)) (upd lfx L (nI fx)) (upd lfy L (nI fy)) lfr lp lk lc lf lM (n + k + 1) (nI i) := by
        intro k
        induction k with
        | zero =>
          intro i hi h n
          have hi' : i = m := by omega
          subst hi'
          rw [wY_setup_107]
          exact br_t (nI_le (Nat.le_refl _) (by omega)) (fin (ra_any_f i (fun j hj => decide_eq_false (fun z => z (h j hj)))))
        | succ k ih =>
          intro i hi h n
          have m0 : mon = 0 := by
            by_cases m : mon = 0
            · exact m
            · have := ef0 m; omega
          have e0 := efx m0
          have xi := wx.2.1 i (by omega)
          have yi := wy.2.1 i (by omega)
          rw [wY_setup_107]
          simp (disch := omega) only [ra_m3, nI_add, nI_clamp, ra_inI, true_and, (hx m0).2.1 i (by omega), hy.2.1 i (by omega), forall_eq, nI_1]
          refine br_f (nI_ge (by omega) (by omega)) (br_f (by rw [ra_le3 (by omega)]; omega) ?_)
          by_cases g : x.2.1 i = y.2.1 i
          · refine br_t (by rw [g]) (ih (i + 1) (by omega) (fun j hj => ?_) n)
            by_cases z : j = i
            · subst z; exact g
            · exact h j (by omega)
          · exact br_f (fun z => g ((nI_eq (by omega) (by omega)).mp z)) (h1 (ra_any_t m i (by omega) (decide_eq_true g)) _ _ _ _ _ _ _ _ _ _ _ _ _ _
              (fun N hN => ⟨pk_un hN, pk_un hN, pk_un hN, pk_un hN, pk_un hN, rfl, rfl, rfl, rfl, fun _ _ => rfl, fun _ _ => rfl⟩) rfl rfl rfl)
      exact ⟨_, key m 0 (Nat.zero_add m) (fun j hj => absurd hj (Nat.not_lt_zero j)) 0⟩
    by_cases g : fx < fy
    · rw [if_pos g] at loop
      exact br_f (nI_ge g (by omega)) loop
    · rw [if_neg g] at loop
      exact br_t (nI_le (by omega) (by omega)) loop
  unfold wpY_setup
  dsimp only
  simp (disch := omega) only [nI_clamp, ra_inI, true_and, forall_eq, hy.1]
  refine ym_eff y3 ?_
  rw [show nI y.1 - nI (ra_eff r y.1) = nI fy by rw [efy]; exact pk_sub ey]
  by_cases m : mon = 0
  · refine br_t (by rw [m]; rfl) ?_
    rw [(hx m).1]
    refine ym_eff x3 ?_
    rw [show nI x.1 - nI (ra_eff l x.1) = nI fx by rw [efx m]; exact pk_sub ex]
    exact main
  · refine br_f (nI_ne0 (by omega) (by omega)) ?_
    rw [ef0 m] at main
    exact main
theorem ym_extract {post : SY → Prop} {L q sx sy mon fx fy dx dy : Nat} {x y : ra_A} (hL : L < 2) (hc : c ≤ 32) (hm : mon ≤ 1) (hV : yv_V lx ly lm lfx lfy lfr lp lf L sx sy mon fx fy (ra_F x y fx fy) (ra_pos x y fx fy))
    (hx : mon = 0 → ra_H rk dm am sx x) (hy : ra_H rk dm am sy y) (wx : ra_W c x) (wy : ra_W c y) (hfx : fx ≤ x.1) (hfy : fy ≤ y.1) (hd : ra_dis x y (if fx < fy then fx else fy) = false)
    (hq : q < ra_pos x y fx fy) (hsx : sx < 11) (hsy : sy < 11) (hdx : dx < 11) (hdy : dy < 11) (n1 : sx ≠ dx) (n2 : sy ≠ dx) (n3 : sy ≠ dy) (n4 : dx ≠ dy)
    (hp : ∀ rk' dm' am', (mon = 0 → ra_H rk' dm' am' dx (ra_cx x y fx fy q)) → ra_H rk' dm' am' dy (ra_cy x y fx fy q) → (∀ j, j ≠ dx → j ≠ dy → ra_S rk dm am rk' dm' am' j) → post (nI c, fv, oa, ol, ov, rk', dm', am', lx, ly, lm, lfx, lfy, lfr, lp, lk, lc, lf, lM)) :
    wpY_extract post (nI c, fv, oa, ol, ov, rk, dm, am, lx, ly, lm, lfx, lfy, lfr, lp, lk, lc, lf, lM) (nI L) (nI q) (nI dx) (nI dy) := by
  obtain ⟨v1, v2, v3, v4, v5, v6, v7, v8⟩ := hV
  have x3 := wx.1
  have y3 := wy.1
  have hpos := ra_pos_le hc wx wy hfx hfy
  have fr3 := ra_fr_3 wx wy hfx hfy
  have gx := ra_fr_x fx fy
  have gy := ra_fr_y fx fy
  have bx := ra_num_b (g := fx) hc wx wy hfx hfy
  have bY := ra_num_b (g := fy) hc wx wy hfx hfy
  have px := ra_num_pos gx hq
  have py := ra_num_pos gy hq
  have tail : ∀ rk1 dm1 am1, (mon = 0 → ra_H rk1 dm1 am1 dx (ra_cx x y fx fy q)) → (∀ j, j ≠ dx → ra_S rk dm am rk1 dm1 am1 j) → wY_extract_43 post (nI L) (nI q) (nI dy) (nI c) fv oa ol ov rk1 dm1 am1 lx ly lm lfx lfy lfr lp lk lc lf lM := by
    intro rk1 dm1 am1 h4 hS1
    unfold wY_extract_43
    simp (disch := omega) only [nI_clamp, ra_inI, true_and, v2, v5]
    refine ym_span hL v6 fr3 (by omega) v8 py (by omega) ⟨nI_ne0 py (by omega), ?_⟩
    rw [pk_div (by omega) py (by omega)]
    refine ym_cellOut hc wy (ra_H_S hy wy hc (hS1 sy n2)) hsy hdy n3 hfy (ra_numy hd hq) ?_
    intro rk2 dm2 am2 h6 hS2
    exact hp rk2 dm2 am2 (fun m => ra_H_S (h4 m) (ra_cx_W wx hfx hd hq) hc (hS2 _ n4)) h6 (fun j a b => ra_S_t (hS1 j a) (hS2 j b))
  unfold wpY_extract
  dsimp only
  simp (disch := omega) only [nI_clamp, ra_inI, true_and, v1, v3, v4]
  by_cases m : mon = 0
  · refine br_t (by rw [m]; rfl) ?_
    refine ym_span hL v6 fr3 (by omega) v8 px (by omega) ⟨nI_ne0 px (by omega), ?_⟩
    rw [pk_div (by omega) px (by omega)]
    refine ym_cellOut hc wx (hx m) hsx hdx n1 hfx (ra_numx hd hq) ?_
    intro rk1 dm1 am1 h4 hS1
    exact tail rk1 dm1 am1 (fun _ => h4) hS1
  · exact br_f (nI_ne0 (by omega) (by omega)) (tail rk dm am (fun z => absurd z m) (fun _ _ => ra_S_r))
theorem ym_eo14 {post : Int32 → SY → Prop} {L r K o zs : Nat} {F G : Nat → Nat} {zz : Int32} (hL : L < 2) (ho : o < 11) (r3 : r ≤ 3) (k3 : K ≤ 3) (v6 : lfr L = nI r) (v8 : ∀ i, i < r → lf (L * 3 + i) = nI (F i))
    (hz : 0 < K → zz = nI zs ∧ zs < 11 ∧ zs ≠ o ∧ ∀ i, i < K → dm (zs * 3 + i) = nI (G i))
    (h1 : 3 < r + K → post (-4) (nI c, fv, oa, ol, ov, rk, dm, am, lx, ly, lm, lfx, lfy, lfr, lp, lk, lc, lf, lM))
    (h2 : r + K ≤ 3 → ∀ rk' dm', rk' o = nI (r + K) → (∀ i, i < r + K → dm' (o * 3 + i) = nI (if i < r then F i else G (i - r))) → (∀ j, j ≠ o → ra_S rk dm am rk' dm' am j) → post 0 (nI c, fv, oa, ol, ov, rk', dm', am, lx, ly, lm, lfx, lfy, lfr, lp, lk, lc, lf, lM)) :
    wY_emptyOut_14 post (nI L) zz (nI o) (nI K) (nI c) fv oa ol ov rk dm am lx ly lm lfx lfy lfr lp lk lc lf lM := by
  unfold wY_emptyOut_14
  simp (disch := omega) only [nI_clamp, ra_inI, true_and, forall_eq, v6, nI_add]
  by_cases h3 : r + K ≤ 3
  · refine br_t (by rw [ra_gt3 (by omega)]; exact h3) ?_
    refine ra_loop0 (fun n i => wY_emptyOut_50 post (nI L) zz (nI o) (nI K) (nI r) (nI c) fv oa ol ov n (nI i) (upd rk o (nI (r + K))) (ra_blk dm (o * 3) i (fun i => nI (if i < r then F i else G (i - r)))) am lx ly lm lfx lfy lfr lp lk lc lf lM) r (fun n => ?_) (fun n i hi ih => ?_) (fun n h => ?_)
    · simp only [wY_emptyOut_50]
      refine br_t (nI_le (Nat.le_refl _) (by omega)) ?_
      refine ra_loop0 (fun n i => wY_emptyOut_94 post zz (nI o) (nI K) (nI r) (nI c) fv oa ol ov n (nI i) (upd rk o (nI (r + K))) (ra_blk dm (o * 3) (r + i) (fun i => nI (if i < r then F i else G (i - r)))) am lx ly lm lfx lfy lfr lp lk lc lf lM) K (fun n => ?_) (fun n i hi ih => ?_) (fun n h => ?_)
      · simp only [wY_emptyOut_94]
        exact br_t (nI_le (Nat.le_refl _) (by omega)) (h2 h3 _ _ pk_us (fun i hi => ra_blk_in hi) (fun j hj => ⟨pk_un hj, fun i hi => ra_blk_out (by omega), fun _ _ => rfl⟩))
      · obtain ⟨e1, e2, e3, e4⟩ := hz (by omega)
        subst e1
        simp (disch := omega) only [wY_emptyOut_94, ra_m3, nI_add, nI_clamp, ra_inI, true_and, forall_eq, nI_1]
        refine br_f (nI_ge hi (by omega)) (br_f (by rw [ra_le3 (by omega)]; omega) ?_)
        rw [ra_blk_out (by omega), e4 i hi, Nat.add_assoc (o * 3), ra_blk_s (by
          show nI (G i) = nI (if r + i < r then F (r + i) else G (r + i - r))
          rw [if_neg (by omega), Nat.add_sub_cancel_left])]
        exact ih
      · exact h
    · simp (disch := omega) only [wY_emptyOut_50, ra_m3, nI_add, nI_clamp, ra_inI, true_and, forall_eq, nI_1, v8 i hi]
      refine br_f (nI_ge hi (by omega)) (br_f (by rw [ra_le3 (by omega)]; omega) ?_)
      rw [ra_blk_s (by rw [if_pos hi])]
      exact ih
    · rw [ra_blk_0] at h
      exact h
  · exact br_f (by rw [ra_gt3 (by omega)]; exact h3) (h1 (by omega))
theorem ym_prep0 {post : Int32 → SY → Prop} {L o : Nat} (hL : L < 2) (hp : post 0 (nI c, fv, oa, ol, ov, rk, dm, am, lx, ly, lm, lfx, lfy, lfr, lp, upd lk L 0, lc, lf, lM)) : wpY_prep post (nI c, fv, oa, ol, ov, rk, dm, am, lx, ly, lm, lfx, lfy, lfr, lp, lk, lc, lf, lM) (nI L) 0 (nI o) := by
  unfold wpY_prep wY_prep_11 wY_prep_43
  dsimp only
  refine br_t rfl ⟨vp_in_nI hL (by decide), nm_e ?_⟩
  rw [nI_clamp (by omega)]
  exact br_f (by decide) (br_f (by decide) hp)
theorem ym_prep1 {post : Int32 → SY → Prop} {L o : Nat} (hL : L < 2) (hp : post 0 (nI c, fv, oa, ol, ov, rk, dm, am, lx, ly, lm, lfx, lfy, lfr, lp, lk, lc, lf, ra_blk lM (L * 3) 3 (fun _ => 0))) : wpY_prep post (nI c, fv, oa, ol, ov, rk, dm, am, lx, ly, lm, lfx, lfy, lfr, lp, lk, lc, lf, lM) (nI L) 1 (nI o) := by
  unfold wpY_prep wY_prep_11
  dsimp only
  refine br_f (by decide) (br_t rfl ?_)
  refine ra_loop0 (fun n i => wY_prep_19 post (nI L) 1 (nI o) (nI c) fv oa ol ov n (nI i) rk dm am lx ly lm lfx lfy lfr lp lk lc lf (ra_blk lM (L * 3) i (fun _ => 0))) 3 (fun n => ?_) (fun n i hi ih => ?_) (fun n h => ?_)
  · simp only [wY_prep_19]
    unfold wY_prep_43
    exact br_t (by decide) (br_f (by decide) hp)
  · simp (disch := omega) only [wY_prep_19, ra_m3, nI_add, nI_clamp, ra_inI, true_and, forall_eq, nI_1]
    refine br_f (by rw [ra_le3 (by omega)]; omega) ?_
    rw [ra_blk_s rfl]
    exact ih
  · rw [ra_blk_0] at h
    exact h
theorem ym_prep2 {post : Int32 → SY → Prop} {L o r K P : Nat} {F m : Nat → Nat} (hL : L < 2) (ho : o < 11) (hc : c ≤ 32) (r3 : r ≤ 3) (k3 : K ≤ 3) (hP : P ≤ 32768) (m32 : ∀ i, i < K → m i ≤ c)
    (v6 : lfr L = nI r) (v7 : lp L = nI P) (v8 : ∀ i, i < r → lf (L * 3 + i) = nI (F i)) (vK : lk L = nI K) (vM : ∀ i, i < K → lM (L * 3 + i) = nI (m i))
    (h1 : 3 < r + K → post (-4) (nI c, fv, oa, ol, ov, rk, dm, am, lx, ly, lm, lfx, lfy, lfr, lp, lk, lc, lf, lM)) (h2 : c < P * ra_prod m 0 K → ∀ lc', (∀ N, N ≠ L → lc' N = lc N) → post (-4) (nI c, fv, oa, ol, ov, rk, dm, am, lx, ly, lm, lfx, lfy, lfr, lp, lk, lc', lf, lM))
    (h3 : r + K ≤ 3 → P * ra_prod m 0 K ≤ c → ∀ rk' dm' lc', lc' L = nI (ra_prod m 0 K) → (∀ N, N ≠ L → lc' N = lc N) → rk' o = nI (r + K) → (∀ i, i < r + K → dm' (o * 3 + i) = nI (if i < r then F i else m (i - r))) → (∀ j, j ≠ o → ra_S rk dm am rk' dm' am j) → post 0 (nI c, fv, oa, ol, ov, rk', dm', am, lx, ly, lm, lfx, lfy, lfr, lp, lk, lc', lf, lM)) :
    wpY_prep post (nI c, fv, oa, ol, ov, rk, dm, am, lx, ly, lm, lfx, lfy, lfr, lp, lk, lc, lf, lM) (nI L) 2 (nI o) := by
  have mc32 : ra_prod m 0 K ≤ 32768 := Nat.le_trans (ra_prod_le (b := 32) _ (fun i hi => by rw [Nat.zero_add]; exact Nat.le_trans (m32 i hi) hc)) (ra_p32 k3)
  have pb : P * ra_prod m 0 K ≤ 32768 * 32768 := Nat.mul_le_mul hP mc32
  unfold wpY_prep wY_prep_11 wY_prep_43
  dsimp only
  refine br_f (by decide) (br_f (by decide) (br_t rfl ?_))
  simp (disch := omega) only [nI_clamp, ra_inI, true_and, forall_eq, v6, vK, nI_add]
  by_cases g3 : r + K ≤ 3
  · refine br_t (by rw [ra_gt3 (by omega)]; exact g3) ?_
    refine ra_loop (fun n i => wY_prep_84 post (nI L) (nI o) (nI K) (nI r) (nI c) fv oa ol ov rk dm am lx ly lm lfx lfy lfr lp lk lc lf lM n (nI (ra_prod m 0 i)) (nI i)) K (fun n => ?_) (fun n i hi ih => ?_) 0 (Nat.zero_le _)
    · simp only [wY_prep_84]
      refine br_t (nI_le (Nat.le_refl _) (by omega)) ?_
      unfold wY_prep_119
      simp (disch := omega) only [nI_clamp, ra_inI, true_and, forall_eq, v7, pk_mul, nI_add]
      by_cases gc : P * ra_prod m 0 K ≤ c
      · refine br_t (nI_le gc (by omega)) ?_
        refine ra_loop0 (fun n i => wY_prep_160 post (nI L) (nI o) (nI K) (nI r) (nI c) fv oa ol ov n (nI i) (upd rk o (nI (r + K))) (ra_blk dm (o * 3) i (fun i => nI (if i < r then F i else m (i - r)))) am lx ly lm lfx lfy lfr lp lk (upd lc L (nI (ra_prod m 0 K))) lf lM) r (fun n => ?_) (fun n i hi ih => ?_) (fun n h => ?_)
        · simp only [wY_prep_160]
          refine br_t (nI_le (Nat.le_refl _) (by omega)) ?_
          refine ra_loop0 (fun n i => wY_prep_204 post (nI L) (nI o) (nI K) (nI r) (nI c) fv oa ol ov n (nI i) (upd rk o (nI (r + K))) (ra_blk dm (o * 3) (r + i) (fun i => nI (if i < r then F i else m (i - r)))) am lx ly lm lfx lfy lfr lp lk (upd lc L (nI (ra_prod m 0 K))) lf lM) K (fun n => ?_) (fun n i hi ih => ?_) (fun n h => ?_)
          · simp only [wY_prep_204]
            exact br_t (nI_le (Nat.le_refl _) (by omega)) (h3 g3 gc _ _ _ pk_us (fun N hN => pk_un hN) pk_us (fun i hi => ra_blk_in hi) (fun j hj => ⟨pk_un hj, fun i hi => ra_blk_out (by omega), fun _ _ => rfl⟩))
          · simp (disch := omega) only [wY_prep_204, ra_m3, nI_add, nI_clamp, ra_inI, true_and, forall_eq, nI_1, vM i hi]
            refine br_f (nI_ge hi (by omega)) (br_f (by rw [ra_le3 (by omega)]; omega) ?_)
            rw [Nat.add_assoc (o * 3), ra_blk_s (by
              show nI (m i) = nI (if r + i < r then F (r + i) else m (r + i - r))
              rw [if_neg (by omega), Nat.add_sub_cancel_left])]
            exact ih
          · exact h
        · simp (disch := omega) only [wY_prep_160, ra_m3, nI_add, nI_clamp, ra_inI, true_and, forall_eq, nI_1, v8 i hi]
          refine br_f (nI_ge hi (by omega)) (br_f (by rw [ra_le3 (by omega)]; omega) ?_)
          rw [ra_blk_s (by rw [if_pos hi])]
          exact ih
        · rw [ra_blk_0] at h
          exact h
      · exact br_f (nI_ge (by omega) (by omega)) (h2 (by omega) _ (fun N hN => pk_un hN))
    · simp (disch := omega) only [wY_prep_84, ra_m3, nI_add, nI_clamp, ra_inI, true_and, forall_eq, nI_1, vM i hi, pk_mul]
      refine br_f (nI_ge hi (by omega)) (br_f (by rw [ra_le3 (by omega)]; omega) ?_)
      rw [ra_prod, Nat.zero_add] at ih
      exact ih
  · exact br_f (by rw [ra_gt3 (by omega)]; exact g3) (h1 (by omega))
end
