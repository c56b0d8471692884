/-! X: reshape, take, the primitive of a verb -/
theorem ra_cl_n {z : Int32} (h : ¬ z < 0) : z = nI z.toNatClampNeg := by
  obtain ⟨j, hj, rfl⟩ := nI_of h
  rw [nI_clamp hj]
theorem ra_cl_b (z : Int32) : z.toNatClampNeg < 2 ^ 31 := by
  have := Int32.toInt_lt z
  show z.toInt.toNat < 2 ^ 31
  omega
theorem ra_big_lim {c : Nat} {x : ra_A} (hc : c < 2 ^ 31) (h : ∀ i, i < ra_cnt x → ¬ x.2.2 i < 0) :
    ra_lim c (fun i => (x.2.2 i).toNatClampNeg) (ra_cnt x) = true ↔ (ra_big c x = true ∨ c < ra_prod (fun i => (x.2.2 i).toNatClampNeg) 0 (ra_cnt x)) := by
  have e : ra_any (fun i => decide (c < (x.2.2 i).toNatClampNeg)) (ra_cnt x) = ra_big c x := ra_any_congr _ (fun i hi => by
    have b := ra_cl_b (x.2.2 i)
    have q : nI c < x.2.2 i ↔ c < (x.2.2 i).toNatClampNeg := by
      have := ra_cl_n (h i hi)
      generalize (x.2.2 i).toNatClampNeg = m at this b ⊢
      rw [this]
      exact nI_ltI hc b
    exact (decide_eq_decide.mpr q).symm)
  unfold ra_lim
  rw [e, Bool.or_eq_true, decide_eq_true_iff]
section
variable {post : Int32 → SX → Prop} {c : Nat} {x y : ra_A} {fv oa ol ov : Int32} {rk dm am xs ys xf yf fs fr wr wd : Nat → Int32}
theorem xm_reshape (h8 : 8 ≤ c) (hc : c ≤ 32) (hx : ra_H rk dm am 5 x) (wx : ra_W c x) (hy : ra_H rk dm am 7 y) (wy : ra_W c y) (hp : ∀ rk' dm' am', (∀ j, j ≠ 10 → ra_S rk dm am rk' dm' am' j) → (ra_PE c 10 x y = 0 → ra_H rk' dm' am' 10 (ra_PA fv 10 x y)) → post (ra_PE c 10 x y) (nI c, fv, oa, ol, ov, rk', dm', am', xs, ys, xf, yf, fs, fr, wr, wd))
 : wpX_reshape post (nI c, fv, oa, ol, ov, rk, dm, am, xs, ys, xf, yf, fs, fr, wr, wd) := by
  have x3 := wx.1
  have y3 := wy.1
  have xc := wx.2.2
  have yc := wy.2.2
  have ha : ∀ i, i < ra_cnt x → am (160 + i) = x.2.2 i := fun i hi => hx.2.2 i hi
  unfold wpX_reshape
  dsimp only
  rw [hx.1]
  refine xm_product (s := 5) (f := 0) (d := x.2.1) (by decide) (by decide) x3 (fun i _ hi => hx.2.1 i hi) ?_
  show ∃ n, wX_reshape_15 post (nI (ra_cnt x)) (nI c) fv oa ol ov rk dm am xs ys xf yf fs fr wr wd n 0
  have key : ∀ k i, i + k = ra_cnt x → (∀ j, j < i → ¬ x.2.2 j < 0) → ∀ n, wX_reshape_15 post (nI (ra_cnt x)) (nI c) fv oa ol ov rk dm am xs ys xf yf fs fr wr wd (n + k + 1) (nI i) := by
    intro k
    induction k with
    | zero =>
      intro i hi h n
      have hi' : i = ra_cnt x := by omega
      subst hi'
      have hneg : ¬ ra_neg x = true := by
        unfold ra_neg
        rw [ra_any_f (ra_cnt x) (fun j hj => decide_eq_false (h j hj))]
        exact Bool.false_ne_true
      rw [wX_reshape_15]
      refine br_t (nI_le (Nat.le_refl _) (by omega)) ?_
      by_cases g3 : 3 < ra_cnt x
      · have e : ra_PE c 10 x y = -4 := by rw [ra_PE10, if_neg hneg, if_pos (.inl g3)]
        have := hp rk dm am (fun _ _ => ra_S_r) (fun z => absurd (e.symm.trans z) (by decide))
        rw [e] at this
        exact br_f (by rw [ra_gt3 (by omega)]; omega) this
      refine br_t (by rw [ra_gt3 (by omega)]; omega) ?_
      have bl := ra_big_lim (c := c) (by omega) h
      have hd : ∀ i, i < ra_cnt x → ra_blk dm 30 (ra_cnt x) (fun i => am (160 + i)) (10 * 3 + i) = nI (x.2.2 i).toNatClampNeg := fun i hi => by
        rw [ra_blk_in hi, ha i hi]; exact ra_cl_n (h i hi)
      refine ra_loop0 (fun m i => wX_reshape_52 post (nI (ra_cnt x)) (nI c) fv oa ol ov m (nI i) rk (ra_blk dm 30 i (fun i => am (160 + i))) am xs ys xf yf fs fr wr wd) (ra_cnt x) (fun m => ?_) (fun m i hi ih => ?_) (fun m h => ?_)
      · simp only [wX_reshape_52]
        refine br_t (nI_le (Nat.le_refl _) (by omega)) (nm_e ?_)
        refine xm_limitError (s := 10) (r := ra_cnt x) (d := fun i => (x.2.2 i).toNatClampNeg) hc (by decide) (by omega) pk_us hd (fun i _ => ra_cl_b _) ?_
        by_cases gl : ra_lim c (fun i => (x.2.2 i).toNatClampNeg) (ra_cnt x) = true
        · have e : ra_PE c 10 x y = -4 := by rw [ra_PE10, if_neg hneg, if_pos (.inr (bl.mp gl))]
          rw [if_pos gl]
          have := hp (upd rk 10 (nI (ra_cnt x))) (ra_blk dm 30 (ra_cnt x) (fun i => am (160 + i))) am (fun j hj => ⟨pk_un hj, fun i hi => ra_blk_out (by omega), fun _ _ => rfl⟩) (fun z => absurd (e.symm.trans z) (by decide))
          rw [e] at this
          exact br_f (by decide) this
        · have nl : ¬ (ra_big c x = true ∨ c < ra_prod (fun i => (x.2.2 i).toNatClampNeg) 0 (ra_cnt x)) := fun z => gl (bl.mpr z)
          have e : ra_PE c 10 x y = 0 := by rw [ra_PE10, if_neg hneg, if_neg (fun z => z.elim g3 nl)]
          have hT : ra_prod (fun i => (x.2.2 i).toNatClampNeg) 0 (ra_cnt x) ≤ c := Nat.le_of_not_lt fun z => nl (.inr z)
          rw [if_neg gl]
          refine br_t rfl ?_
          have fin := hp (upd rk 10 (nI (ra_cnt x))) (ra_blk dm 30 (ra_cnt x) (fun i => am (160 + i))) (ra_blk am 320 (ra_prod (fun i => (x.2.2 i).toNatClampNeg) 0 (ra_cnt x)) (fun i => if 0 < ra_cnt y then am (224 + i % ra_cnt y) else fv))
            (fun j hj => ⟨pk_un hj, fun i hi => ra_blk_out (by omega), fun i hi => ra_blk_out (by omega)⟩) (fun _ =>
            ra_P10 (s := 7) hy pk_us hd (fun i hi => ra_blk_in hi))
          rw [e] at fin
          refine xm_product (s := 10) (f := 0) (d := fun i => (x.2.2 i).toNatClampNeg) (by decide) (by decide) (by omega) (fun i _ hi => hd i hi) ?_
          rw [pk_un (by decide), hy.1]
          refine xm_product (s := 7) (f := 0) (d := y.2.1) (by decide) (by decide) y3 (fun i _ hi => (ra_blk_out (by omega)).trans (hy.2.1 i hi)) ?_
          rw [Nat.sub_zero, Nat.sub_zero]
          show ∃ n, wX_reshape_129 post _ (nI (ra_cnt y)) (nI c) fv oa ol ov n 0 (upd rk 10 (nI (ra_cnt x))) (ra_blk dm 30 (ra_cnt x) (fun i => am (160 + i))) am xs ys xf yf fs fr wr wd
          generalize ra_prod (fun i => (x.2.2 i).toNatClampNeg) 0 (ra_cnt x) = TT at fin hT ⊢
          refine ra_loop0 (fun m i => wX_reshape_129 post (nI TT) (nI (ra_cnt y)) (nI c) fv oa ol ov m (nI i) (upd rk 10 (nI (ra_cnt x))) (ra_blk dm 30 (ra_cnt x) (fun i => am (160 + i))) (ra_blk am 320 i (fun i => if 0 < ra_cnt y then am (224 + i % ra_cnt y) else fv)) xs ys xf yf fs fr wr wd) TT (fun m => ?_) (fun m i hi ih => ?_) (fun m h => ?_)
          · simp only [wX_reshape_129]
            exact br_t (nI_le (Nat.le_refl _) (by omega)) fin
          · simp only [wX_reshape_129]
            refine br_f (nI_ge hi (by omega)) ?_
            by_cases gy : 0 < ra_cnt y
            · refine br_f (nI_nle gy (by omega)) ⟨nI_ne0 gy (by omega), ?_⟩
              have hm := Nat.mod_lt i gy
              rw [pk_rem (by omega) gy (by omega), ra_k224, nI_clamp (by omega), ra_blk_out (by omega)]
              refine ⟨vp_in_nI (by omega) (by decide), ?_⟩
              unfold wX_reshape_159
              simp (disch := omega) only [ra_k320, nI_clamp, ra_inI, true_and, forall_eq, nI_1]
              rw [ra_blk_s (by rw [if_pos gy])]
              exact ih
            · refine br_t (by rw [ra_le0 (by omega)]; omega) ?_
              unfold wX_reshape_159
              simp (disch := omega) only [ra_k320, nI_clamp, ra_inI, true_and, forall_eq, nI_1]
              rw [ra_blk_s (by rw [if_neg gy])]
              exact ih
          · rw [ra_blk_0] at h
            exact h
      · simp (disch := omega) only [wX_reshape_52, ra_k160, ra_k30, nI_clamp, ra_inI, true_and, forall_eq, nI_1]
        refine br_f (nI_ge hi (by omega)) ?_
        rw [ra_blk_s rfl]
        exact ih
      · rw [ra_blk_0] at h
        exact h
    | succ k ih =>
      intro i hi h n
      rw [wX_reshape_15]
      simp (disch := omega) only [ra_k160, nI_clamp, ra_inI, true_and, forall_eq, nI_1]
      refine br_f (nI_ge (by omega) (by omega)) ?_
      rw [ha i (by omega)]
      by_cases g : x.2.2 i < 0
      · have e : ra_PE c 10 x y = -2 := by
          rw [ra_PE10, if_pos]
          exact ra_any_t _ i (by omega) (decide_eq_true g)
        have := hp rk dm am (fun _ _ => ra_S_r) (fun z => absurd (e.symm.trans z) (by decide))
        rw [e] at this
        exact br_f (Int32.not_le.mpr g) this
      · refine br_t (Int32.not_lt.mp g) (ih (i + 1) (by omega) (fun j hj => ?_) n)
        by_cases z : j = i
        · subst z; exact g
        · exact h j (by omega)
  exact ⟨_, key (ra_cnt x) 0 (Nat.zero_add _) (fun j hj => absurd hj (Nat.not_lt_zero j)) 0⟩
theorem xm_take30 {z0 : Int32} (h8 : 8 ≤ c) (hc : c ≤ 32) (hy : ra_H rk dm am 7 y) (wy : ra_W c y) (hm : ra_abs (x.2.2 0) ≤ c) (ez : z0 = nI (ra_abs (x.2.2 0))) (hp : ∀ rk' dm' am', (∀ j, j ≠ 10 → ra_S rk dm am rk' dm' am' j) → (ra_PE c 11 x y = 0 → ra_H rk' dm' am' 10 (ra_PA fv 11 x y)) → post (ra_PE c 11 x y) (nI c, fv, oa, ol, ov, rk', dm', am', xs, ys, xf, yf, fs, fr, wr, wd))
 : wX_take_30 post (x.2.2 0) z0 (nI c) fv oa ol ov rk dm am xs ys xf yf fs fr wr wd := by
  subst ez
  have y3 := wy.1
  have yc := wy.2.2
  rw [ra_cnt_li] at yc
  have ib := ra_it_le hc wy
  have lb := ra_len_le (by omega) wy
  have hin : ∀ j, j < ra_len y → j * ra_it y + ra_it y ≤ 32 := fun j hj => by
    have : (j + 1) * ra_it y ≤ ra_len y * ra_it y := Nat.mul_le_mul_right _ hj
    rw [Nat.succ_mul] at this; omega
  unfold wX_take_30
  refine xm_itemCount hy wy ?_
  rw [hy.1]
  refine xm_product (s := 7) (f := 1) (d := y.2.1) (by decide) (by decide) y3 (fun i _ hi => hy.2.1 i hi) ?_
  refine xm_copyAxes (s := 7) (f := 0) (t := 10) (by decide) (by decide) (by decide) y3 (by decide) hy.1 ?_
  show _ ∧ _
  have mk : wX_take_88 post (x.2.2 0) (nI (ra_abs (x.2.2 0))) (nI (ra_len y)) (nI (ra_it y)) (nI (if y.1 = 0 then 1 else y.1)) 10 (nI c) fv oa ol ov (upd rk 10 (nI (y.1 - 0))) (ra_blk dm (10 * 3) (y.1 - 0) (fun i => dm (7 * 3 + 0 + i))) am xs ys xf yf fs fr wr wd := by
    have r3 : (if y.1 = 0 then 1 else y.1) ≤ 3 := by split <;> omega
    have r1 : ∀ i, i < (if y.1 = 0 then 1 else y.1) → i ≠ 0 → i < y.1 := fun i hi h0 => by split at hi <;> omega
    have hd : ∀ i, i < (if y.1 = 0 then 1 else y.1) → upd (ra_blk dm (10 * 3) (y.1 - 0) (fun i => dm (7 * 3 + 0 + i))) 30 (nI (ra_abs (x.2.2 0))) (10 * 3 + i) = nI (if i = 0 then ra_abs (x.2.2 0) else y.2.1 i) := fun i hi => by
      by_cases e : i = 0
      · subst e; rw [if_pos rfl]; exact pk_us
      · rw [if_neg e, pk_un (by omega), ra_blk_in (by have := r1 i hi e; omega)]
        exact hy.2.1 i (r1 i hi e)
    unfold wX_take_88
    refine ⟨vp_in_nI (n := 10) (by decide) (by decide), nm_r (e' := upd rk 10 (nI (if y.1 = 0 then 1 else y.1))) (funext fun j => ?_) (nm_e ?_)⟩
    · show upd (upd rk 10 (nI (y.1 - 0))) 10 _ j = _
      by_cases e : j = 10
      · subst e; rw [pk_us, pk_us]
      · rw [pk_un e, pk_un e, pk_un e]
    refine xm_limitError (s := 10) (r := if y.1 = 0 then 1 else y.1) (d := fun i => if i = 0 then ra_abs (x.2.2 0) else y.2.1 i) hc (by decide) r3 pk_us hd (fun i hi => ?_) ?_
    · show (if i = 0 then ra_abs (x.2.2 0) else y.2.1 i) < 2 ^ 31
      by_cases e : i = 0
      · rw [if_pos e]; omega
      · rw [if_neg e]; have := wy.2.1 i (r1 i hi e); omega
    rw [ra_lim_le (fun i hi => by
      show (if i = 0 then ra_abs (x.2.2 0) else y.2.1 i) ≤ c
      by_cases e : i = 0
      · rw [if_pos e]; exact hm
      · rw [if_neg e]; exact wy.2.1 i (r1 i hi e)), show ra_prod (fun i => if i = 0 then ra_abs (x.2.2 0) else y.2.1 i) 0 (if y.1 = 0 then 1 else y.1) = ra_abs (x.2.2 0) * ra_it y from ra_take_cnt (a := y.2.2)]
    have hS : ∀ am', (∀ i, (i < 320 ∨ 352 ≤ i) → am' i = am i) → ∀ j, j ≠ 10 → ra_S rk dm am (upd rk 10 (nI (if y.1 = 0 then 1 else y.1))) (upd (ra_blk dm (10 * 3) (y.1 - 0) (fun i => dm (7 * 3 + 0 + i))) 30 (nI (ra_abs (x.2.2 0)))) am' j := fun am' ham j hj =>
      ⟨pk_un hj, fun i hi => by rw [pk_un (by omega), ra_blk_out (by omega)], fun i hi => ham _ (by omega)⟩
    by_cases g : c < ra_abs (x.2.2 0) * ra_it y
    · have e : ra_PE c 11 x y = -4 := by rw [ra_PE11, if_pos (.inr g)]
      rw [if_pos (decide_eq_true g)]
      have := hp _ _ am (hS am (fun _ _ => rfl)) (fun z => absurd (e.symm.trans z) (by decide))
      rw [e] at this
      exact br_f (by decide) this
    have e : ra_PE c 11 x y = 0 := by rw [ra_PE11, if_neg (fun z => z.elim (fun z => by omega) g)]
    rw [if_neg (fun z => g (of_decide_eq_true z))]
    refine br_t rfl ?_
    have fin := hp _ _ (ra_blk am 320 (ra_abs (x.2.2 0) * ra_it y) (fun n => if ra_src (x.2.2 0) (ra_len y) (n / ra_it y) < ra_len y then am (224 + (ra_src (x.2.2 0) (ra_len y) (n / ra_it y) * ra_it y + n % ra_it y)) else fv))
      (hS _ (fun i hi => ra_blk_out (by omega))) (fun _ => ra_P11 (s := 7) hy pk_us pk_us (fun i h1 hi => by
        rw [pk_un (by omega), ra_blk_in (by omega)]; exact hy.2.1 i hi) (fun n hn => ra_blk_in hn))
    rw [e] at fin
    generalize upd (ra_blk dm (10 * 3) (y.1 - 0) (fun i => dm (7 * 3 + 0 + i))) 30 (nI (ra_abs (x.2.2 0))) = dm2 at fin ⊢
    generalize upd rk 10 (nI (if y.1 = 0 then 1 else y.1)) = rk2 at fin ⊢
    have lp : ∀ sk : Int32, (∀ k, k < ra_abs (x.2.2 0) → (ra_src (x.2.2 0) (ra_len y) k < ra_len y → sk + nI k = nI (ra_src (x.2.2 0) (ra_len y) k)) ∧ (¬ ra_src (x.2.2 0) (ra_len y) k < ra_len y → sk + nI k < 0 ∨ nI (ra_len y) ≤ sk + nI k)) →
        ∃ n, wX_take_125 post (nI (ra_abs (x.2.2 0))) (nI (ra_len y)) (nI (ra_it y)) sk n 0 (nI c) fv oa ol ov rk2 dm2 am xs ys xf yf fs fr wr wd := by
      intro sk hsk
      refine ra_loop0 (fun n k => wX_take_125 post (nI (ra_abs (x.2.2 0))) (nI (ra_len y)) (nI (ra_it y)) sk n (nI k) (nI c) fv oa ol ov rk2 dm2 (ra_blk am 320 (k * ra_it y) (fun n => if ra_src (x.2.2 0) (ra_len y) (n / ra_it y) < ra_len y then am (224 + (ra_src (x.2.2 0) (ra_len y) (n / ra_it y) * ra_it y + n % ra_it y)) else fv)) xs ys xf yf fs fr wr wd) (ra_abs (x.2.2 0)) (fun n => ?_) (fun n k hk ih => ?_) (fun n h => ?_)
      · simp only [wX_take_125]
        exact br_t (nI_le (Nat.le_refl _) (by omega)) fin
      · have hk2 : k * ra_it y + ra_it y ≤ 32 := by
          have : (k + 1) * ra_it y ≤ ra_abs (x.2.2 0) * ra_it y := Nat.mul_le_mul_right _ hk
          rw [Nat.succ_mul] at this; omega
        simp only [wX_take_125]
        refine br_f (nI_ge hk (by omega)) (nm_e ?_)
        obtain ⟨s1, s2⟩ := hsk k hk
        by_cases g9 : ra_src (x.2.2 0) (ra_len y) k < ra_len y
        · rw [s1 g9]
          have hj := hin _ g9
          refine br_f (nI_pos (by omega)) (br_f (nI_ge g9 (by omega)) ?_)
          refine xm_copyItem hj hk2 ?_
          refine nm_r (nI_1 k) ?_
          rw [Nat.succ_mul] at ih
          rw [← ra_blk_blk (h := fun i => ra_blk am 320 (k * ra_it y) (fun n => if ra_src (x.2.2 0) (ra_len y) (n / ra_it y) < ra_len y then am (224 + (ra_src (x.2.2 0) (ra_len y) (n / ra_it y) * ra_it y + n % ra_it y)) else fv) (224 + ra_src (x.2.2 0) (ra_len y) k * ra_it y + i)) (fun i hi => by
            rw [ra_blk_out (by omega), (ra_item hi).1, (ra_item hi).2, if_pos g9, Nat.add_assoc])] at ih
          exact ih
        · have fl9 : wX_take_162 post (wX_take_125 post (nI (ra_abs (x.2.2 0))) (nI (ra_len y)) (nI (ra_it y)) sk n) (nI (ra_abs (x.2.2 0))) (nI (ra_len y)) (nI (ra_it y)) sk (nI k) (nI c) fv oa ol ov rk2 dm2 (ra_blk am 320 (k * ra_it y) (fun n => if ra_src (x.2.2 0) (ra_len y) (n / ra_it y) < ra_len y then am (224 + (ra_src (x.2.2 0) (ra_len y) (n / ra_it y) * ra_it y + n % ra_it y)) else fv)) xs ys xf yf fs fr wr wd := by
            unfold wX_take_162
            refine xm_fillItem hk2 ?_
            refine nm_r (nI_1 k) ?_
            rw [Nat.succ_mul] at ih
            rw [← ra_blk_blk (h := fun _ => fv) (fun i hi => by
              rw [(ra_item hi).1, if_neg g9])] at ih
            exact ih
          rcases s2 g9 with z | z
          · exact br_t z fl9
          · refine br_c (fun _ => fl9) (fun _ => br_t z fl9)
      · rw [Nat.zero_mul, ra_blk_0] at h
        exact h
    by_cases z : x.2.2 0 < 0
    · refine br_f (Int32.not_le.mpr z) (nm_e (lp _ (fun k hk => ?_)))
      by_cases z2 : ra_abs (x.2.2 0) ≤ ra_len y + k
      · rw [ra_src_n z z2]
        exact ⟨fun _ => ra_skip_p z2, fun q => absurd q (by omega)⟩
      · rw [ra_src_x z z2]
        exact ⟨fun q => absurd q (by omega), fun _ => .inl (ra_skip_n (by omega) (by omega))⟩
    · refine br_t (Int32.not_lt.mp z) (lp _ (fun k hk => ?_))
      rw [ra_src_p z, Int32.zero_add]
      exact ⟨fun _ => rfl, fun q => .inr (nI_le (by omega) (by omega))⟩
  by_cases e : y.1 = 0
  · rw [if_pos e] at mk
    refine br_t ?_ mk
    rw [pk_un (by decide), hy.1, e]; rfl
  · rw [if_neg e] at mk
    rw [pk_un (by decide), hy.1]
    exact br_f (nI_ne0 (by omega) (by omega)) mk
theorem xm_take (h8 : 8 ≤ c) (hc : c ≤ 32) (hy : ra_H rk dm am 7 y) (wy : ra_W c y) (hp : ∀ rk' dm' am', (∀ j, j ≠ 10 → ra_S rk dm am rk' dm' am' j) → (ra_PE c 11 x y = 0 → ra_H rk' dm' am' 10 (ra_PA fv 11 x y)) → post (ra_PE c 11 x y) (nI c, fv, oa, ol, ov, rk', dm', am', xs, ys, xf, yf, fs, fr, wr, wd))
 : wpX_take post (nI c, fv, oa, ol, ov, rk, dm, am, xs, ys, xf, yf, fs, fr, wr, wd) (x.2.2 0) := by
  have ab := ra_abs_c (z := x.2.2 0) (c := c) (by omega)
  unfold wpX_take
  by_cases g : c < ra_abs (x.2.2 0)
  · have e : ra_PE c 11 x y = -4 := by rw [ra_PE11, if_pos (.inl g)]
    have := hp rk dm am (fun _ _ => ra_S_r) (fun z => absurd (e.symm.trans z) (by decide))
    rw [e] at this
    rcases ab.mpr g with z | z
    · exact br_t z this
    · exact br_c (fun _ => this) (fun _ => br_f (Int32.not_le.mpr z) this)
  · refine br_f (fun z => g (ab.mp (.inl z))) (br_t (Int32.not_lt.mp fun z => g (ab.mp (.inr z))) ?_)
    by_cases z : x.2.2 0 < 0
    · exact br_f (Int32.not_le.mpr z) (xm_take30 h8 hc hy wy (by omega) (ra_abs_n z (by omega)) hp)
    · exact br_t (Int32.not_lt.mp z) (xm_take30 h8 hc hy wy (by omega) (ra_abs_p z) hp)
end
