/-! the reference: reshape, take, from -/
section
variable {post : Int32 → SY → Prop} {c sx sy t : Nat} {x y : ra_A} {fv oa ol ov : Int32} {rk dm am lx ly lm lfx lfy lfr lp lk lc lf lM : Nat → Int32}

theorem ym_p10 (h8 : 8 ≤ c) (hc : c ≤ 32) (hsx : sx < 11) (hsy : sy < 11) (ht : t < 11) (hxt : sx ≠ t) (hst : sy ≠ t) (hx : ra_H rk dm am sx x) (wx : ra_W c x) (hx1 : x.1 ≤ 1) (hy : ra_H rk dm am sy y) (wy : ra_W c y) (hp : ∀ rk' dm' am', (∀ j, j ≠ t → ra_S rk dm am rk' dm' am' j) → (ra_PE c 10 x y = 0 → ra_H rk' dm' am' t (ra_PA fv 10 x y)) → post (ra_PE c 10 x y) (nI c, fv, oa, ol, ov, rk', dm', am', lx, ly, lm, lfx, lfy, lfr, lp, lk, lc, lf, lM))
 : wY_prim_112 post 10 (nI sx) (nI sy) (nI t) (nI y.1) (am (sx * 32)) (am (sy * 32)) (nI (ra_cnt y)) (nI (ra_len y)) (nI (y.1 - 1)) (nI (ra_it y)) (nI c) fv oa ol ov rk dm am lx ly lm lfx lfy lfr lp lk lc lf lM
 := by
  have xc := wx.2.2
  have yc := wy.2.2
  have ha : ∀ i, i < ra_cnt x → am (sx * 32 + i) = x.2.2 i := fun i hi => hx.2.2 i hi
  have key : ∀ k i, i + k = ra_cnt x → (∀ j, j < i → ¬ x.2.2 j < 0) → ∀ n, wY_prim_883 post (nI sx) (nI sy) (nI t) (nI (ra_cnt y)) (nI (ra_cnt x)) (nI c) fv oa ol ov rk dm am lx ly lm lfx lfy lfr lp lk lc lf lM (n + k + 1) (nI i) := by
    intro k
    induction k with
    | zero =>
      intro i hi h n
      have hi' : i = ra_cnt x := by omega
      subst hi'
      have hneg : ¬ ra_neg x = true := by
        unfold ra_neg
        rw [ra_any_f (ra_cnt x) (fun j hj => decide_eq_false (h j hj))]
        exact Bool.false_ne_true
      rw [wY_prim_883]
      refine br_t (nI_le (Nat.le_refl _) (by omega)) ?_
      unfold wY_prim_921
      by_cases g3 : 3 < ra_cnt x
      · have e : ra_PE c 10 x y = -4 := by rw [ra_PE10, if_neg hneg, if_pos (.inl g3)]
        have := hp rk dm am (fun _ _ => ra_S_r) (fun z => absurd (e.symm.trans z) (by decide))
        rw [e] at this
        exact br_f (by rw [ra_gt3 (by omega)]; omega) this
      refine br_t (by rw [ra_gt3 (by omega)]; omega) ?_
      have key2 : ∀ k i, i + k = ra_cnt x → (∀ j, j < i → (x.2.2 j).toNatClampNeg ≤ c) → ∀ n, wY_prim_936 post (nI sx) (nI sy) (nI t) (nI (ra_cnt y)) (nI (ra_cnt x)) (nI c) fv oa ol ov rk dm am lx ly lm lfx lfy lfr lp lk lc lf lM (n + k + 1) (nI (ra_prod (fun i => (x.2.2 i).toNatClampNeg) 0 i)) (nI i) := by
        intro k
        induction k with
        | zero =>
          intro i hi h2 n
          have hi' : i = ra_cnt x := by omega
          subst hi'
          have hb2 : ra_prod (fun i => (x.2.2 i).toNatClampNeg) 0 (ra_cnt x) ≤ 32768 := Nat.le_trans (ra_prod_le (b := 32) _ (fun j hj => by rw [Nat.zero_add]; exact Nat.le_trans (h2 j hj) hc)) (ra_p32 (by omega))
          have hbig : ¬ ra_big c x = true := by
            unfold ra_big
            rw [ra_any_f (ra_cnt x) (fun j hj => decide_eq_false (fun z => by
              have q := ra_cl_n (h j hj)
              have b := ra_cl_b (x.2.2 j)
              have l := h2 j hj
              rw [q, nI_ltI (by omega) b] at z
              omega))]
            exact Bool.false_ne_true
          rw [wY_prim_936]
          refine br_t (nI_le (Nat.le_refl _) (by omega)) ?_
          by_cases gl : c < ra_prod (fun i => (x.2.2 i).toNatClampNeg) 0 (ra_cnt x)
          · have e : ra_PE c 10 x y = -4 := by rw [ra_PE10, if_neg hneg, if_pos (.inr (.inr gl))]
            have := hp rk dm am (fun _ _ => ra_S_r) (fun z => absurd (e.symm.trans z) (by decide))
            rw [e] at this
            exact br_f (nI_ge gl (by omega)) this
          have e : ra_PE c 10 x y = 0 := by rw [ra_PE10, if_neg hneg, if_neg (fun z => z.elim g3 (fun z => z.elim hbig gl))]
          refine br_t (nI_le (by omega) (by omega)) ?_
          simp (disch := omega) only [nI_clamp, ra_inI, true_and, forall_eq]
          have fin := hp (upd rk t (nI (ra_cnt x))) (ra_blk dm (t * 3) (ra_cnt x) (fun i => am (sx * 32 + i))) (ra_blk am (t * 32) (ra_prod (fun i => (x.2.2 i).toNatClampNeg) 0 (ra_cnt x)) (fun i => if 0 < ra_cnt y then am (sy * 32 + i % ra_cnt y) else fv))
            (fun j hj => ra_S_blk (by omega) (by omega) hj) (fun _ =>
            ra_P10 hy pk_us (fun i hi => (ra_blk_in hi).trans ((ha i hi).trans (ra_cl_n (h i hi)))) (fun i hi => ra_blk_in hi))
          rw [e] at fin
          generalize ra_prod (fun i => (x.2.2 i).toNatClampNeg) 0 (ra_cnt x) = TT at fin gl ⊢
          refine ra_loop0 (fun m i => wY_prim_1012 post (nI sx) (nI sy) (nI t) (nI (ra_cnt y)) (nI (ra_cnt x)) (nI TT) (nI c) fv oa ol ov m (nI i) (upd rk t (nI (ra_cnt x))) (ra_blk dm (t * 3) i (fun i => am (sx * 32 + i))) am lx ly lm lfx lfy lfr lp lk lc lf lM) (ra_cnt x) (fun m => ?_) (fun m i hi ih => ?_) (fun m h => ?_)
          · simp only [wY_prim_1012]
            refine br_t (nI_le (Nat.le_refl _) (by omega)) ?_
            refine ra_loop0 (fun m i => wY_prim_1052 post (nI sy) (nI t) (nI (ra_cnt y)) (nI TT) (nI c) fv oa ol ov m (nI i) (upd rk t (nI (ra_cnt x))) (ra_blk dm (t * 3) (ra_cnt x) (fun i => am (sx * 32 + i))) (ra_blk am (t * 32) i (fun i => if 0 < ra_cnt y then am (sy * 32 + i % ra_cnt y) else fv)) lx ly lm lfx lfy lfr lp lk lc lf lM) TT (fun m => ?_) (fun m i hi ih => ?_) (fun m h => ?_)
            · simp only [wY_prim_1052]
              exact br_t (nI_le (Nat.le_refl _) (by omega)) fin
            · simp only [wY_prim_1052]
              refine br_f (nI_ge hi (by omega)) (br_f (by rw [ra_le32 (by omega)]; omega) ?_)
              by_cases gy : 0 < ra_cnt y
              · have hm := Nat.mod_lt i gy
                refine br_f (nI_nle gy (by omega)) ⟨nI_ne0 gy (by omega), ?_⟩
                rw [pk_rem (by omega) gy (by omega)]
                simp (disch := omega) only [ra_m32, nI_add, nI_clamp, ra_inI, true_and, forall_eq, nI_1]
                rw [ra_blk_out (by omega), ra_blk_s (by rw [if_pos gy])]
                exact ih
              · refine br_t (by rw [ra_le0 (by omega)]; omega) ?_
                simp (disch := omega) only [ra_m32, nI_add, nI_clamp, ra_inI, true_and, forall_eq, nI_1]
                rw [ra_blk_s (by rw [if_neg gy])]
                exact ih
            · rw [ra_blk_0] at h
              exact h
          · simp (disch := omega) only [wY_prim_1012, ra_m3, ra_m32, nI_add, nI_clamp, ra_inI, true_and, forall_eq, nI_1]
            refine br_f (nI_ge hi (by omega)) ?_
            rw [ra_blk_s rfl]
            exact ih
          · rw [ra_blk_0] at h
            exact h
        | succ k ih =>
          intro i hi h2 n
          have q := ra_cl_n (h i (by omega))
          have b := ra_cl_b (x.2.2 i)
          rw [wY_prim_936]
          simp (disch := omega) only [ra_m32, nI_add, nI_clamp, ra_inI, true_and, forall_eq, nI_1]
          refine br_f (nI_ge (by omega) (by omega)) ?_
          rw [ha i (by omega)]
          by_cases g : (x.2.2 i).toNatClampNeg ≤ c
          · refine br_t (by rw [q]; exact nI_le g (by omega)) ?_
            have := ih (i + 1) (by omega) (fun j hj => by
              by_cases y : j = i
              · subst y; exact g
              · exact h2 j (by omega)) n
            rw [ra_prod, Nat.zero_add, ← pk_mul, ← q] at this
            exact this
          · have e : ra_PE c 10 x y = -4 := by
              have hbg : ra_big c x = true := by
                unfold ra_big
                exact ra_any_t _ i (by omega) (decide_eq_true (by rw [q]; exact nI_lt (by omega) b))
              rw [ra_PE10, if_neg hneg, if_pos (.inr (.inl hbg))]
            have := hp rk dm am (fun _ _ => ra_S_r) (fun z => absurd (e.symm.trans z) (by decide))
            rw [e] at this
            exact br_f (by rw [q]; exact nI_ge (by omega) b) this
      exact ⟨_, key2 (ra_cnt x) 0 (Nat.zero_add _) (fun j hj => absurd hj (Nat.not_lt_zero j)) 0⟩
    | succ k ih =>
      intro i hi h n
      rw [wY_prim_883]
      simp (disch := omega) only [ra_m32, nI_add, nI_clamp, ra_inI, true_and, forall_eq, nI_1]
      refine br_f (nI_ge (by omega) (by omega)) (br_f (by rw [ra_le32 (by omega)]; omega) ?_)
      rw [ha i (by omega)]
      by_cases g : x.2.2 i < 0
      · have e : ra_PE c 10 x y = -2 := by
          rw [ra_PE10, if_pos]
          exact ra_any_t _ i (by omega) (decide_eq_true g)
        have := hp rk dm am (fun _ _ => ra_S_r) (fun z => absurd (e.symm.trans z) (by decide))
        rw [e] at this
        exact br_f (Int32.not_le.mpr g) this
      · refine br_t (Int32.not_lt.mp g) (ih (i + 1) (by omega) (fun j hj => ?_) n)
        by_cases z : j = i
        · subst z; exact g
        · exact h j (by omega)
  have lp : ∃ n, wY_prim_883 post (nI sx) (nI sy) (nI t) (nI (ra_cnt y)) (nI (ra_cnt x)) (nI c) fv oa ol ov rk dm am lx ly lm lfx lfy lfr lp lk lc lf lM n 0 := ⟨_, key (ra_cnt x) 0 (Nat.zero_add _) (fun j hj => absurd hj (Nat.not_lt_zero j)) 0⟩
  unfold wY_prim_112 wY_prim_495
  refine br_f (by decide) (br_f (by decide) (br_f (by decide) (br_f (by decide) (br_f (by decide) (br_f (by decide) (br_f (by decide) (br_f (by decide) (br_f (by decide) (br_f (by decide) (?_))))))))))
  refine br_f (by decide) (br_f (by decide) (br_t rfl ?_))
  rw [nI_clamp (by omega), hx.1]
  refine ⟨vp_in_nI hsx (by decide), ?_⟩
  by_cases x0 : x.1 = 0
  · refine br_t (by rw [x0]; rfl) ?_
    rw [ra_cnt_r0 x0] at lp
    exact lp
  · refine br_f (nI_ne0 (by omega) (by omega)) ?_
    have e1 : ra_cnt x = x.2.1 0 := by
      unfold ra_cnt
      rw [show x.1 = 1 by omega]
      show 1 * x.2.1 (0 + 0) = x.2.1 0
      rw [Nat.one_mul]
    rw [ra_m3, nI_clamp (by omega), show dm (sx * 3) = nI (ra_cnt x) by rw [e1]; exact hx.2.1 0 (by omega)]
    exact ⟨vp_in_nI (by omega) (by decide), nm_e lp⟩
theorem ym_1339f {J1 J2 : Int32 → (Nat → Int32) → (Nat → Int32) → (Nat → Int32) → (Nat → Int32) → (Nat → Int32) → (Nat → Int32) → (Nat → Int32) → (Nat → Int32) → (Nat → Int32) → (Nat → Int32) → (Nat → Int32) → (Nat → Int32) → (Nat → Int32) → (Nat → Int32) → Prop} {a3 a6 a9 a11 a12 a13 a14 a16 : Int32} {i q : Nat} (ht : t < 11) (hq : q < 32)
    (hp : J2 (nI (i + 1)) rk dm (upd am (t * 32 + q) fv) lx ly lm lfx lfy lfr lp lk lc lf lM) : wY_prim_1338 post J1 J2 a3 (nI t) a6 a9 a11 a12 a13 a14 (nI i) a16 (nI q) (nI c) fv oa ol ov rk dm am lx ly lm lfx lfy lfr lp lk lc lf lM := by
  unfold wY_prim_1338 wY_prim_1339
  refine br_f (nI_pos (by omega)) (br_f (by rw [ra_le32 (by omega)]; omega) (br_t rfl ?_))
  simp (disch := omega) only [ra_m32, nI_add, nI_clamp, ra_inI, true_and, forall_eq, nI_1]
  exact hp
theorem ym_1155 {z0 : Int32} (h8 : 8 ≤ c) (hc : c ≤ 32) (hsy : sy < 11) (ht : t < 11) (hst : sy ≠ t) (hy : ra_H rk dm am sy y) (wy : ra_W c y) (hm : ra_abs (x.2.2 0) ≤ c) (ez : z0 = nI (ra_abs (x.2.2 0))) (hp : ∀ rk' dm' am', (∀ j, j ≠ t → ra_S rk dm am rk' dm' am' j) → (ra_PE c 11 x y = 0 → ra_H rk' dm' am' t (ra_PA fv 11 x y)) → post (ra_PE c 11 x y) (nI c, fv, oa, ol, ov, rk', dm', am', lx, ly, lm, lfx, lfy, lfr, lp, lk, lc, lf, lM))
 :
    wY_prim_1155 post (nI sy) (nI t) (x.2.2 0) (nI (ra_len y)) (nI (y.1 - 1)) (nI (ra_it y)) z0 (nI c) fv oa ol ov rk dm am lx ly lm lfx lfy lfr lp lk lc lf lM := by
  subst ez
  have y3 := wy.1
  have yc := wy.2.2
  rw [ra_cnt_li] at yc
  have ib := ra_it_le hc wy
  have lb := ra_len_le (by omega) wy
  have hb : ra_abs (x.2.2 0) * ra_it y ≤ 32 * 1024 := Nat.mul_le_mul (by omega) ib
  unfold wY_prim_1155
  rw [pk_mul]
  by_cases g : c < ra_abs (x.2.2 0) * ra_it y
  · have e : ra_PE c 11 x y = -4 := by rw [ra_PE11, if_pos (.inr g)]
    have := hp rk dm am (fun _ _ => ra_S_r) (fun z => absurd (e.symm.trans z) (by decide))
    rw [e] at this
    exact br_f (nI_ge g (by omega)) this
  have e : ra_PE c 11 x y = 0 := by rw [ra_PE11, if_neg (fun z => z.elim (fun z => by omega) g)]
  refine br_t (nI_le (by omega) (by omega)) ?_
  simp (disch := omega) only [ra_m3, nI_1, nI_clamp, ra_inI, true_and, forall_eq]
  have er : y.1 - 1 + 1 = if y.1 = 0 then 1 else y.1 := by split <;> omega
  have fin := hp (upd rk t (nI (y.1 - 1 + 1))) (ra_blk (upd dm (t * 3) (nI (ra_abs (x.2.2 0)))) (t * 3 + 1) (y.1 - 1) (fun i => dm (sy * 3 + 1 + i))) (ra_blk am (t * 32) (ra_abs (x.2.2 0) * ra_it y) (fun n => if ra_src (x.2.2 0) (ra_len y) (n / ra_it y) < ra_len y then am (sy * 32 + (ra_src (x.2.2 0) (ra_len y) (n / ra_it y) * ra_it y + n % ra_it y)) else fv))
    (fun j hj => ⟨pk_un hj, fun i hi => by rw [ra_blk_out (by omega), pk_un (by omega)], fun i hi => ra_blk_out (by omega)⟩) (fun _ =>
    ra_P11 hy (by rw [← er]; exact pk_us) (by rw [ra_blk_out (by omega)]; exact pk_us) (fun i h1 hi => by
      rw [show t * 3 + i = t * 3 + 1 + (i - 1) by omega, ra_blk_in (by omega), show sy * 3 + 1 + (i - 1) = sy * 3 + i by omega]
      exact hy.2.1 i hi) (fun n hn => ra_blk_in hn))
  rw [e] at fin
  generalize upd rk t (nI (y.1 - 1 + 1)) = rk2 at fin ⊢
  refine ra_loop0 (fun m i => wY_prim_1197 post (nI sy) (nI t) (x.2.2 0) (nI (ra_len y)) (nI (y.1 - 1)) (nI (ra_it y)) (nI (ra_abs (x.2.2 0))) (nI c) fv oa ol ov m (nI i) rk2 (ra_blk (upd dm (t * 3) (nI (ra_abs (x.2.2 0)))) (t * 3 + 1) i (fun i => dm (sy * 3 + 1 + i))) am lx ly lm lfx lfy lfr lp lk lc lf lM) (y.1 - 1) (fun m => ?_) (fun m i hi ih => ?_) (fun m h => ?_)
  · simp only [wY_prim_1197]
    refine br_t (nI_le (Nat.le_refl _) (by omega)) ?_
    generalize ra_blk (upd dm (t * 3) (nI (ra_abs (x.2.2 0)))) (t * 3 + 1) (y.1 - 1) (fun i => dm (sy * 3 + 1 + i)) = dm2 at fin ⊢
    refine ra_loop0 (fun m k => wY_prim_1246 post (nI sy) (nI t) (x.2.2 0) (nI (ra_len y)) (nI (ra_it y)) (nI (ra_abs (x.2.2 0))) (nI c) fv oa ol ov m (nI k) rk2 dm2 (ra_blk am (t * 32) (k * ra_it y) (fun n => if ra_src (x.2.2 0) (ra_len y) (n / ra_it y) < ra_len y then am (sy * 32 + (ra_src (x.2.2 0) (ra_len y) (n / ra_it y) * ra_it y + n % ra_it y)) else fv)) lx ly lm lfx lfy lfr lp lk lc lf lM) (ra_abs (x.2.2 0)) (fun m => ?_) (fun m k hk ih => ?_) (fun m h => ?_)
    · simp only [wY_prim_1246]
      exact br_t (nI_le (Nat.le_refl _) (by omega)) fin
    · have inner : ∀ a14 : Int32, (ra_src (x.2.2 0) (ra_len y) k < ra_len y → a14 = nI (ra_src (x.2.2 0) (ra_len y) k)) → (¬ ra_src (x.2.2 0) (ra_len y) k < ra_len y → a14 < 0 ∨ nI (ra_len y) ≤ a14) →
          ∃ n, wY_prim_1276 post (wY_prim_1246 post (nI sy) (nI t) (x.2.2 0) (nI (ra_len y)) (nI (ra_it y)) (nI (ra_abs (x.2.2 0))) (nI c) fv oa ol ov m) (nI sy) (nI t) (x.2.2 0) (nI (ra_len y)) (nI (ra_it y)) (nI (ra_abs (x.2.2 0))) (nI k) a14 (nI c) fv oa ol ov n 0 rk2 dm2 (ra_blk am (t * 32) (k * ra_it y) (fun n => if ra_src (x.2.2 0) (ra_len y) (n / ra_it y) < ra_len y then am (sy * 32 + (ra_src (x.2.2 0) (ra_len y) (n / ra_it y) * ra_it y + n % ra_it y)) else fv)) lx ly lm lfx lfy lfr lp lk lc lf lM := by
        intro a14 s1 s2
        refine ra_loop0 (fun m2 i => wY_prim_1276 post (wY_prim_1246 post (nI sy) (nI t) (x.2.2 0) (nI (ra_len y)) (nI (ra_it y)) (nI (ra_abs (x.2.2 0))) (nI c) fv oa ol ov m) (nI sy) (nI t) (x.2.2 0) (nI (ra_len y)) (nI (ra_it y)) (nI (ra_abs (x.2.2 0))) (nI k) a14 (nI c) fv oa ol ov m2 (nI i) rk2 dm2 (ra_blk am (t * 32) (k * ra_it y + i) (fun n => if ra_src (x.2.2 0) (ra_len y) (n / ra_it y) < ra_len y then am (sy * 32 + (ra_src (x.2.2 0) (ra_len y) (n / ra_it y) * ra_it y + n % ra_it y)) else fv)) lx ly lm lfx lfy lfr lp lk lc lf lM) (ra_it y) (fun m2 => ?_) (fun m2 i hi ih2 => ?_) (fun m2 h => ?_)
        · simp only [wY_prim_1276, nI_1, forall_eq]
          rw [Nat.succ_mul] at ih
          exact br_t (nI_le (Nat.le_refl _) (by omega)) ih
        · have b1 := ra_part (c := 32) hk (by omega) hi
          simp only [wY_prim_1276]
          refine br_f (nI_ge hi (by omega)) (br_f (by rw [ra_le32 (by omega)]; omega) (nm_e (nm_r (e' := nI (k * ra_it y + i)) (by rw [pk_mul, nI_add]) ?_)))
          by_cases g9 : ra_src (x.2.2 0) (ra_len y) k < ra_len y
          · have b2 := ra_part (c := 32) g9 (by omega) hi
            rw [s1 g9, pk_mul, nI_add]
            refine br_f (nI_pos (by omega)) (br_f (nI_ge g9 (by omega)) (br_f (nI_pos (by omega)) (br_f (by rw [ra_le32 (by omega)]; omega) ?_)))
            unfold wY_prim_1339
            refine br_f (nI_pos (by omega)) (br_f (by rw [ra_le32 (by omega)]; omega) (br_f (by decide) ?_))
            simp (disch := omega) only [ra_m32, nI_add, nI_clamp, ra_inI, true_and, forall_eq, nI_1]
            rw [s1 g9] at ih2
            rw [ra_blk_out (by omega), ra_blk_s (by rw [(ra_item hi).1, (ra_item hi).2, if_pos g9])]
            exact ih2
          · rcases s2 g9 with z | z
            · refine br_t z (ym_1339f ht b1 ?_)
              rw [ra_blk_s (by rw [(ra_item hi).1, if_neg g9])]
              exact ih2
            · refine br_c (fun _ => ym_1339f ht b1 ?_) (fun _ => br_t z (ym_1339f ht b1 ?_))
              · rw [ra_blk_s (by rw [(ra_item hi).1, if_neg g9])]
                exact ih2
              · rw [ra_blk_s (by rw [(ra_item hi).1, if_neg g9])]
                exact ih2
        · exact h
      simp only [wY_prim_1246]
      refine br_f (nI_ge hk (by omega)) ?_
      by_cases z : x.2.2 0 < 0
      · refine br_t z (nm_e (inner _ ?_ ?_))
        · intro g9
          by_cases z2 : ra_abs (x.2.2 0) ≤ ra_len y + k
          · rw [ra_src_n z z2]; exact ra_skip_p z2
          · rw [ra_src_x z z2] at g9; omega
        · intro g9
          by_cases z2 : ra_abs (x.2.2 0) ≤ ra_len y + k
          · rw [ra_src_n z z2] at g9; omega
          · exact .inl (ra_skip_n (by omega) (by omega))
      · refine br_f z (inner _ ?_ ?_)
        · intro _; rw [ra_src_p z]
        · intro g9; rw [ra_src_p z] at g9; exact .inr (nI_le (by omega) (by omega))
    · rw [Nat.zero_mul, ra_blk_0] at h
      exact h
  · simp (disch := omega) only [wY_prim_1197, ra_m3, nI_1, nI_add, nI_clamp, ra_inI, true_and, forall_eq]
    refine br_f (nI_ge hi (by omega)) (br_f (by rw [ra_le2 (by omega)]; omega) ?_)
    rw [ra_blk_out (by omega), pk_un (by omega), ra_blk_s rfl]
    exact ih
  · rw [ra_blk_0] at h
    exact h
theorem ym_p11 (h8 : 8 ≤ c) (hc : c ≤ 32) (hsy : sy < 11) (ht : t < 11) (hst : sy ≠ t) (hx0 : am (sx * 32) = x.2.2 0) (hy : ra_H rk dm am sy y) (wy : ra_W c y) (hp : ∀ rk' dm' am', (∀ j, j ≠ t → ra_S rk dm am rk' dm' am' j) → (ra_PE c 11 x y = 0 → ra_H rk' dm' am' t (ra_PA fv 11 x y)) → post (ra_PE c 11 x y) (nI c, fv, oa, ol, ov, rk', dm', am', lx, ly, lm, lfx, lfy, lfr, lp, lk, lc, lf, lM))
 : wY_prim_112 post 11 (nI sx) (nI sy) (nI t) (nI y.1) (am (sx * 32)) (am (sy * 32)) (nI (ra_cnt y)) (nI (ra_len y)) (nI (y.1 - 1)) (nI (ra_it y)) (nI c) fv oa ol ov rk dm am lx ly lm lfx lfy lfr lp lk lc lf lM
 := by
  have ab := ra_abs_c (z := x.2.2 0) (c := c) (by omega)
  unfold wY_prim_112 wY_prim_495
  refine br_f (by decide) (br_f (by decide) (br_f (by decide) (br_f (by decide) (br_f (by decide) (br_f (by decide) (br_f (by decide) (br_f (by decide) (br_f (by decide) (br_f (by decide) (?_))))))))))
  refine br_f (by decide) (br_f (by decide) (br_f (by decide) (br_t rfl ?_)))
  rw [hx0]
  by_cases g : c < ra_abs (x.2.2 0)
  · have e : ra_PE c 11 x y = -4 := by rw [ra_PE11, if_pos (.inl g)]
    have := hp rk dm am (fun _ _ => ra_S_r) (fun z => absurd (e.symm.trans z) (by decide))
    rw [e] at this
    rcases ab.mpr g with z | z
    · exact br_t z this
    · exact br_c (fun _ => this) (fun _ => br_f (Int32.not_le.mpr z) this)
  · refine br_f (fun z => g (ab.mp (.inl z))) (br_t (Int32.not_lt.mp fun z => g (ab.mp (.inr z))) ?_)
    by_cases z : x.2.2 0 < 0
    · exact br_f (Int32.not_le.mpr z) (ym_1155 h8 hc hsy ht hst hy wy (by omega) (ra_abs_n z (by omega)) hp)
    · exact br_t (Int32.not_lt.mp z) (ym_1155 h8 hc hsy ht hst hy wy (by omega) (ra_abs_p z) hp)
theorem ym_p12 (h8 : 8 ≤ c) (hc : c ≤ 32) (hsy : sy < 11) (ht : t < 11) (hst : sy ≠ t) (hx0 : am (sx * 32) = x.2.2 0) (hy : ra_H rk dm am sy y) (wy : ra_W c y) (hp : ∀ rk' dm' am', (∀ j, j ≠ t → ra_S rk dm am rk' dm' am' j) → (ra_PE c 12 x y = 0 → ra_H rk' dm' am' t (ra_PA fv 12 x y)) → post (ra_PE c 12 x y) (nI c, fv, oa, ol, ov, rk', dm', am', lx, ly, lm, lfx, lfy, lfr, lp, lk, lc, lf, lM))
 : wY_prim_112 post 12 (nI sx) (nI sy) (nI t) (nI y.1) (am (sx * 32)) (am (sy * 32)) (nI (ra_cnt y)) (nI (ra_len y)) (nI (y.1 - 1)) (nI (ra_it y)) (nI c) fv oa ol ov rk dm am lx ly lm lfx lfy lfr lp lk lc lf lM
 := by
  have y3 := wy.1
  have hd1 : ∀ i, i < y.1 - 1 → dm (sy * 3 + 1 + i) = nI (y.2.1 (1 + i)) := fun i hi => by
    rw [Nat.add_assoc]; exact hy.2.1 (1 + i) (by omega)
  have yc := wy.2.2
  rw [ra_cnt_li] at yc
  have ib := ra_it_le hc wy
  have lb := ra_len_le (by omega) wy
  have nl : (-nI (ra_len y)).toInt = -(ra_len y : Int) := sb_negT (by omega)
  unfold wY_prim_112 wY_prim_495
  refine br_f (by decide) (br_f (by decide) (br_f (by decide) (br_f (by decide) (br_f (by decide) (br_f (by decide) (br_f (by decide) (br_f (by decide) (br_f (by decide) (br_f (by decide) (?_))))))))))
  refine br_f (by decide) (br_f (by decide) (br_f (by decide) (br_f (by decide) ?_)))
  rw [hx0]
  by_cases a : x.2.2 0 < -nI (ra_len y)
  · have e : ra_PE c 12 x y = -3 := by
      rw [ra_PE12, if_pos (.inl (by rw [Int32.lt_iff_toInt_lt, nl] at a; exact a))]
    have := hp rk dm am (fun _ _ => ra_S_r) (fun z => absurd (e.symm.trans z) (by decide))
    rw [e] at this
    exact br_t a this
  refine br_f a ?_
  by_cases b : x.2.2 0 < nI (ra_len y)
  · refine br_t b ?_
    have e : ra_PE c 12 x y = 0 := by
      rw [ra_PE12, if_neg]
      rw [Int32.lt_iff_toInt_lt, nl] at a
      rw [Int32.lt_iff_toInt_lt, nI_toInt (by omega)] at b
      omega
    have hidx : ra_idx (x.2.2 0) (ra_len y) < ra_len y := by
      unfold ra_idx
      by_cases z : x.2.2 0 < 0
      · rw [if_pos z]; exact (ra_idx_n (by omega) z a).2
      · rw [if_neg z]
        rw [ra_abs_p z, nI_ltI (by unfold ra_abs; have := Int32.toInt_lt (x.2.2 0); have := Int32.le_toInt (x.2.2 0); rw [Int32.lt_iff_toInt_lt, ra_t0] at z; omega) (by omega)] at b
        exact b
    have mk : ∀ z : Int32, z = nI (ra_idx (x.2.2 0) (ra_len y)) → wY_prim_1437 post (nI sy) (nI t) (nI (y.1 - 1)) (nI (ra_it y)) z (nI c) fv oa ol ov rk dm am lx ly lm lfx lfy lfr lp lk lc lf lM := by
      intro z ez
      subst ez
      have i32 : ra_it y ≤ 32 := by
        have : (ra_idx (x.2.2 0) (ra_len y) + 1) * ra_it y ≤ ra_len y * ra_it y := Nat.mul_le_mul_right _ hidx
        rw [Nat.succ_mul] at this; omega
      have fin := hp (upd rk t (nI (y.1 - 1))) (ra_blk dm (t * 3) (y.1 - 1) (fun i => dm (sy * 3 + 1 + i))) (ra_blk am (t * 32) (ra_it y) (fun i => am (sy * 32 + (ra_idx (x.2.2 0) (ra_len y) * ra_it y + i))))
        (fun j hj => ra_S_blk (by omega) (by omega) hj) (fun _ =>
        ra_P12 hy hidx pk_us (fun i hi => (ra_blk_in hi).trans (hd1 i hi)) (fun i hi => ra_blk_in hi))
      rw [e] at fin
      unfold wY_prim_1437
      simp (disch := omega) only [nI_clamp, ra_inI, true_and, forall_eq]
      refine ra_loop0 (fun m i => wY_prim_1451 post (nI sy) (nI t) (nI (y.1 - 1)) (nI (ra_it y)) (nI (ra_idx (x.2.2 0) (ra_len y))) (nI c) fv oa ol ov m (nI i) (upd rk t (nI (y.1 - 1))) (ra_blk dm (t * 3) i (fun i => dm (sy * 3 + 1 + i))) am lx ly lm lfx lfy lfr lp lk lc lf lM) (y.1 - 1) (fun m => ?_) (fun m i hi ih => ?_) (fun m h => ?_)
      · simp only [wY_prim_1451]
        refine br_t (nI_le (Nat.le_refl _) (by omega)) ?_
        refine ra_loop0 (fun m i => wY_prim_1498 post (nI sy) (nI t) (nI (ra_it y)) (nI (ra_idx (x.2.2 0) (ra_len y))) (nI c) fv oa ol ov m (nI i) (upd rk t (nI (y.1 - 1))) (ra_blk dm (t * 3) (y.1 - 1) (fun i => dm (sy * 3 + 1 + i))) (ra_blk am (t * 32) i (fun i => am (sy * 32 + (ra_idx (x.2.2 0) (ra_len y) * ra_it y + i)))) lx ly lm lfx lfy lfr lp lk lc lf lM) (ra_it y) (fun m => ?_) (fun m i hi ih => ?_) (fun m h => ?_)
        · simp only [wY_prim_1498]
          exact br_t (nI_le (Nat.le_refl _) (by omega)) fin
        · have b1 := ra_part (c := 32) hidx (by omega) hi
          simp (disch := omega) only [wY_prim_1498, ra_m32, pk_mul, nI_add, nI_clamp, ra_inI, true_and, forall_eq, nI_1]
          refine br_f (nI_ge hi (by omega)) (br_f (by rw [ra_le32 (by omega)]; omega) (br_f (nI_pos (by omega)) (br_f (by rw [ra_le32 (by omega)]; omega) ?_)))
          rw [ra_blk_out (by omega), ra_blk_s rfl]
          exact ih
        · rw [ra_blk_0] at h
          exact h
      · simp (disch := omega) only [wY_prim_1451, ra_m3, nI_1, nI_add, nI_clamp, ra_inI, true_and, forall_eq]
        refine br_f (nI_ge hi (by omega)) (br_f (by rw [ra_le2 (by omega)]; omega) ?_)
        rw [ra_blk_out (by omega), ra_blk_s rfl]
        exact ih
      · rw [ra_blk_0] at h
        exact h
    by_cases z : x.2.2 0 < 0
    · refine br_f (Int32.not_le.mpr z) (mk _ ?_)
      unfold ra_idx
      rw [if_pos z]
      exact (ra_idx_n (by omega) z a).1
    · refine br_t (Int32.not_lt.mp z) (mk _ ?_)
      unfold ra_idx
      rw [if_neg z]
      exact ra_abs_p z
  · have e : ra_PE c 12 x y = -3 := by
      rw [ra_PE12, if_pos (.inr (by rw [Int32.lt_iff_toInt_lt, nI_toInt (by omega)] at b; omega))]
    have := hp rk dm am (fun _ _ => ra_S_r) (fun z => absurd (e.symm.trans z) (by decide))
    rw [e] at this
    exact br_f b this
theorem ym_prim {v : Nat} (hv : v ≤ 12) (h8 : 8 ≤ c) (hc : c ≤ 32) (hsx : sx < 11) (hsy : sy < 11) (ht : t < 11) (hxt : sx ≠ t) (hst : sy ≠ t) (hx : 6 ≤ v → ra_H rk dm am sx x) (hy : ra_H rk dm am sy y) (wx : ra_W c x) (wy : ra_W c y)
    (hfx : x.1 ≤ ra_dL v) (hfy : y.1 ≤ ra_dR v) (hp : ∀ rk' dm' am', (∀ j, j ≠ t → ra_S rk dm am rk' dm' am' j) → (ra_PE c v x y = 0 → ra_H rk' dm' am' t (ra_PA fv v x y)) → post (ra_PE c v x y) (nI c, fv, oa, ol, ov, rk', dm', am', lx, ly, lm, lfx, lfy, lfr, lp, lk, lc, lf, lM))
 : wpY_prim post (nI c, fv, oa, ol, ov, rk, dm, am, lx, ly, lm, lfx, lfy, lfr, lp, lk, lc, lf, lM) (nI v) (nI sx) (nI sy) (nI t) := by
  refine ym_head hsx hsy hy wy ?_
  have gx : x.1 = 0 → 6 ≤ v → am (sx * 32) = x.2.2 0 := fun h g => (hx g).2.2 0 (by rw [ra_cnt_r0 h]; decide)
  have gy : y.1 = 0 → am (sy * 32) = y.2.2 0 := fun h => hy.2.2 0 (by rw [ra_cnt_r0 h]; decide)
  match v, hv with
  | 0, _ => exact ym_p0 ht (gy (Nat.le_zero.mp hfy)) hp
  | 1, _ => exact ym_p1 hc ht (gy (Nat.le_zero.mp hfy)) hp
  | 2, _ => exact ym_p2 hc hsy ht hst hy wy hp
  | 3, _ => exact ym_p3 hc hsy ht hst hy wy hp
  | 4, _ => exact ym_p4 h8 hc hsy ht hst hy wy hp
  | 5, _ => exact ym_p5 hc hsy ht hst hy wy hp
  | 6, _ => exact ym_p6 ht (gy (Nat.le_zero.mp hfy)) (gx (Nat.le_zero.mp hfx) (by decide)) hp
  | 7, _ => exact ym_p7 ht (gy (Nat.le_zero.mp hfy)) (gx (Nat.le_zero.mp hfx) (by decide)) hp
  | 8, _ => exact ym_p8 ht (gy (Nat.le_zero.mp hfy)) (gx (Nat.le_zero.mp hfx) (by decide)) hp
  | 9, _ => exact ym_p9 ht (gy (Nat.le_zero.mp hfy)) (gx (Nat.le_zero.mp hfx) (by decide)) hp
  | 10, _ => exact ym_p10 h8 hc hsx hsy ht hxt hst (hx (by decide)) wx hfx hy wy hp
  | 11, _ => exact ym_p11 h8 hc hsy ht hst (gx (Nat.le_zero.mp hfx) (by decide)) hy wy hp
  | 12, _ => exact ym_p12 h8 hc hsy ht hst (gx (Nat.le_zero.mp hfx) (by decide)) hy wy hp
end
