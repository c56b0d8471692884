/-! X: the methods that write one slot -/
section
variable {c : Nat} {fv oa ol ov : Int32} {rk dm am xs ys xf yf fs fr wr wd : Nat → Int32}
theorem xm_copyAxes {post : SX → Prop} {s f t r : Nat} (hs : s < 12) (ht : t < 12) (hst : s ≠ t) (hr : r ≤ 3) (hf : f ≤ 3) (er : rk s = nI r)
    (hp : post (nI c, fv, oa, ol, ov, upd rk t (nI (r - f)), ra_blk dm (t * 3) (r - f) (fun i => dm (s * 3 + f + i)), am, xs, ys, xf, yf, fs, fr, wr, wd)) : wpX_copyAxes post (nI c, fv, oa, ol, ov, rk, dm, am, xs, ys, xf, yf, fs, fr, wr, wd) (nI s) (nI f) (nI t) := by
  have lp : ∃ n, wX_copyAxes_27 post (nI s) (nI f) (nI t) (nI (r - f)) (nI c) fv oa ol ov n 0 rk dm am xs ys xf yf fs fr wr wd := by
    refine ra_loop0 (fun n i => wX_copyAxes_27 post (nI s) (nI f) (nI t) (nI (r - f)) (nI c) fv oa ol ov n (nI i) rk (ra_blk dm (t * 3) i (fun i => dm (s * 3 + f + i))) am xs ys xf yf fs fr wr wd) (r - f) (fun n => ?_) (fun n i hi ih => ?_) (fun n h => ?_)
    · simp (disch := omega) only [wX_copyAxes_27, nI_clamp, ra_inI, true_and, forall_eq]
      exact br_t (nI_le (Nat.le_refl _) (by omega)) hp
    · simp (disch := omega) only [wX_copyAxes_27, ra_m3, nI_add, nI_clamp, ra_inI, true_and, forall_eq, nI_1]
      refine br_f (nI_ge hi (by omega)) ?_
      rw [ra_blk_out (by omega), ra_blk_s rfl]
      exact ih
    · rw [ra_blk_0] at h
      exact h
  unfold wpX_copyAxes
  dsimp only
  rw [nI_clamp (by omega), er]
  refine ⟨vp_in_nI hs (by decide), ?_⟩
  by_cases h : r ≤ f
  · rw [show r - f = 0 by omega] at lp
    exact br_t (nI_le h (by omega)) lp
  · exact br_f (nI_ge (by omega) (by omega)) ⟨vp_in_nI hs (by decide), nm_r (pk_sub (by omega)) lp⟩
theorem xm_copyCell {post : SX → Prop} {s f p t : Nat} {a : ra_A} (hc : c ≤ 32) (w : ra_W c a) (h : ra_H rk dm am s a) (hs : s < 12) (ht : t < 12) (hst : s ≠ t) (hf : f ≤ a.1) (hpf : p < ra_prod a.2.1 0 f)
    (hp : ∀ rk' dm' am', ra_H rk' dm' am' t (ra_cell a f p) → (∀ j, j ≠ t → ra_S rk dm am rk' dm' am' j) → post (nI c, fv, oa, ol, ov, rk', dm', am', xs, ys, xf, yf, fs, fr, wr, wd)) : wpX_copyCell post (nI c, fv, oa, ol, ov, rk, dm, am, xs, ys, xf, yf, fs, fr, wr, wd) (nI s) (nI f) (nI p) (nI t) := by
  have h3 := w.1
  have wz := (ra_cell_W (p := p) w hf hpf).2.2
  rw [ra_cell_cnt] at wz
  have hin : ∀ i, i < ra_size a f → p * ra_size a f + i < 32 := fun i hi => Nat.lt_of_lt_of_le (ra_cell_in hf hpf hi) (Nat.le_trans w.2.2 hc)
  unfold wpX_copyCell
  refine xm_copyAxes hs ht hst h3 (by omega) h.1 ?_
  dsimp only
  rw [nI_clamp (by omega), pk_us]
  refine ⟨vp_in_nI ht (by decide), ?_⟩
  refine xm_product (d := fun i => a.2.1 (f + i)) (f := 0) ht (by decide) (by omega) (fun i _ hi => ?_) ?_
  · rw [ra_blk_in hi, Nat.add_assoc, h.2.1 (f + i) (by omega)]
  rw [show ra_prod (fun i => a.2.1 (f + i)) 0 (a.1 - f - 0) = ra_size a f from ra_cell_cnt a f p]
  have fin : post (nI c, fv, oa, ol, ov, upd rk t (nI (a.1 - f)), ra_blk dm (t * 3) (a.1 - f) (fun i => dm (s * 3 + f + i)), ra_blk am (t * 32) (ra_size a f) (fun i => am (s * 32 + p * ra_size a f + i)), xs, ys, xf, yf, fs, fr, wr, wd) := by
    refine hp _ _ _ ⟨pk_us, fun i hi => ?_, fun i hi => ?_⟩ (fun j hj => ra_S_blk (by omega) (by omega) hj)
    · have hi' : i < a.1 - f := hi
      rw [ra_blk_in hi', Nat.add_assoc, h.2.1 (f + i) (by omega)]; rfl
    · rw [ra_cell_cnt] at hi
      rw [ra_blk_in hi, Nat.add_assoc, h.2.2 _ (ra_cell_in hf hpf hi)]; rfl
  refine ra_loop0 (fun n i => wX_copyCell_27 post (nI s) (nI p) (nI t) (nI (ra_size a f)) (nI c) fv oa ol ov n (nI i) (upd rk t (nI (a.1 - f))) (ra_blk dm (t * 3) (a.1 - f) (fun i => dm (s * 3 + f + i))) (ra_blk am (t * 32) i (fun i => am (s * 32 + p * ra_size a f + i))) xs ys xf yf fs fr wr wd) (ra_size a f) (fun n => ?_) (fun n i hi ih => ?_) (fun n h => ?_)
  · simp only [wX_copyCell_27]
    exact br_t (nI_le (Nat.le_refl _) (by omega)) fin
  · have hi2 := hin i hi
    simp (disch := omega) only [wX_copyCell_27, ra_m32, pk_mul, nI_add, nI_clamp, ra_inI, true_and, forall_eq, nI_1]
    refine br_f (nI_ge hi (by omega)) ?_
    rw [ra_blk_out (by omega), ra_blk_s rfl]
    exact ih
  · rw [ra_blk_0] at h
    exact h
theorem xm_fillCell {post : Int32 → SX → Prop} {s f t : Nat} {a : ra_A} (hc : c ≤ 32) (w : ra_W c a) (h : ra_H rk dm am s a) (hs : s < 12) (ht : t < 12) (hst : s ≠ t) (hf : f ≤ a.1)
    (hp : ∀ rk' dm' am', (ra_size a f ≤ c → ra_H rk' dm' am' t (ra_fc fv a f)) → (∀ j, j ≠ t → ra_S rk dm am rk' dm' am' j) → post (if ra_size a f ≤ c then 1 else 0) (nI c, fv, oa, ol, ov, rk', dm', am', xs, ys, xf, yf, fs, fr, wr, wd)) :
    wpX_fillCell post (nI c, fv, oa, ol, ov, rk, dm, am, xs, ys, xf, yf, fs, fr, wr, wd) (nI s) (nI f) (nI t) := by
  have h3 := w.1
  have hz := ra_size_le (f := f) hc w
  unfold wpX_fillCell
  refine xm_copyAxes hs ht hst h3 (by omega) h.1 ?_
  dsimp only
  rw [nI_clamp (by omega), pk_us]
  refine ⟨vp_in_nI ht (by decide), ?_⟩
  refine xm_product (d := fun i => a.2.1 (f + i)) (f := 0) ht (by decide) (by omega) (fun i _ hi => ?_) ?_
  · rw [ra_blk_in hi, Nat.add_assoc, h.2.1 (f + i) (by omega)]
  rw [show ra_prod (fun i => a.2.1 (f + i)) 0 (a.1 - f - 0) = ra_size a f from ra_cell_cnt a f 0]
  by_cases g : ra_size a f ≤ c
  · refine br_t (nI_le g (by omega)) ?_
    have fin : post 1 (nI c, fv, oa, ol, ov, upd rk t (nI (a.1 - f)), ra_blk dm (t * 3) (a.1 - f) (fun i => dm (s * 3 + f + i)), ra_blk am (t * 32) (ra_size a f) (fun _ => fv), xs, ys, xf, yf, fs, fr, wr, wd) := by
      have := hp _ _ (ra_blk am (t * 32) (ra_size a f) (fun _ => fv)) (fun _ => (⟨pk_us, fun i hi => ?_, fun i hi => ?_⟩ : ra_H (upd rk t (nI (a.1 - f))) (ra_blk dm (t * 3) (a.1 - f) (fun i => dm (s * 3 + f + i))) _ t (ra_fc fv a f))) (fun j hj => ra_S_blk (by omega) (by omega) hj)
      · rw [if_pos g] at this
        exact this
      · have hi' : i < a.1 - f := hi
        rw [ra_blk_in hi', Nat.add_assoc, h.2.1 (f + i) (by omega)]; rfl
      · rw [ra_fc_cnt] at hi
        rw [ra_blk_in hi]; rfl
    refine ra_loop0 (fun n i => wX_fillCell_35 post (nI t) (nI (ra_size a f)) (nI c) fv oa ol ov n (nI i) (upd rk t (nI (a.1 - f))) (ra_blk dm (t * 3) (a.1 - f) (fun i => dm (s * 3 + f + i))) (ra_blk am (t * 32) i (fun _ => fv)) xs ys xf yf fs fr wr wd) (ra_size a f) (fun n => ?_) (fun n i hi ih => ?_) (fun n h => ?_)
    · simp only [wX_fillCell_35]
      exact br_t (nI_le (Nat.le_refl _) (by omega)) fin
    · simp (disch := omega) only [wX_fillCell_35, ra_m32, nI_add, nI_clamp, ra_inI, true_and, forall_eq, nI_1]
      refine br_f (nI_ge hi (by omega)) ?_
      rw [ra_blk_s rfl]
      exact ih
    · rw [ra_blk_0] at h
      exact h
  · refine br_f (nI_ge (by omega) (by omega)) ?_
    have := hp (upd rk t (nI (a.1 - f))) (ra_blk dm (t * 3) (a.1 - f) (fun i => dm (s * 3 + f + i))) am (fun z => absurd z g) (fun j hj => ⟨pk_un hj, fun i hi => ra_blk_out (by omega), fun _ _ => rfl⟩)
    rw [if_neg g] at this
    exact this
end
