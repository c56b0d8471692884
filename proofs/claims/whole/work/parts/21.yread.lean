/-! the reference: what only reads, and what writes one slot -/
section
variable {c : Nat} {fv oa ol ov : Int32} {rk dm am lx ly lm lfx lfy lfr lp lk lc lf lM : Nat → Int32}
theorem ym_cnt {post : Int32 → Prop} {s r : Nat} {d : Nat → Nat} (hs : s < 11) (hr : r ≤ 3) (er : rk s = nI r) (hd : ∀ i, i < r → dm (s * 3 + i) = nI (d i)) (hp : post (nI (ra_prod d 0 r))) : wpY_cnt post (nI c, fv, oa, ol, ov, rk, dm, am, lx, ly, lm, lfx, lfy, lfr, lp, lk, lc, lf, lM) (nI s) := by
  unfold wpY_cnt
  refine ra_loop (fun n i => wY_cnt_4 post (nI s) (nI c) fv oa ol ov rk dm am lx ly lm lfx lfy lfr lp lk lc lf lM n (nI (ra_prod d 0 i)) (nI i)) r (fun n => ?_) (fun n i hi ih => ?_) 0 (Nat.zero_le _)
  · simp (disch := omega) only [wY_cnt_4, nI_clamp, ra_inI, true_and, er]
    exact br_t (nI_le (Nat.le_refl _) (by omega)) hp
  · simp (disch := omega) only [wY_cnt_4, ra_m3, nI_add, nI_clamp, ra_inI, true_and, forall_eq, nI_1, er, hd i hi, pk_mul]
    refine br_f (nI_ge hi (by omega)) (br_f (by rw [ra_le3 (by omega)]; omega) ?_)
    rw [ra_prod, Nat.zero_add] at ih
    exact ih
theorem ym_drR {post : Int32 → Prop} {v : Nat} (hv : v ≤ 12) (hp : post (nI (ra_dR v))) : wpY_dr post (nI c, fv, oa, ol, ov, rk, dm, am, lx, ly, lm, lfx, lfy, lfr, lp, lk, lc, lf, lM) (nI v) 1 := by
  unfold wpY_dr
  match v, hv with
  | 0, _ => exact br_f (by decide) hp
  | 1, _ => exact br_f (by decide) hp
  | 2, _ => exact br_t (by decide) (br_f (by decide) hp)
  | 3, _ => exact br_t (by decide) (br_f (by decide) hp)
  | 4, _ => exact br_t (by decide) (br_f (by decide) hp)
  | 5, _ => exact br_t (by decide) (br_f (by decide) hp)
  | 6, _ => exact br_t (by decide) (br_t (by decide) (br_f (by decide) hp))
  | 7, _ => exact br_t (by decide) (br_t (by decide) (br_f (by decide) hp))
  | 8, _ => exact br_t (by decide) (br_t (by decide) (br_f (by decide) hp))
  | 9, _ => exact br_t (by decide) (br_t (by decide) (br_f (by decide) hp))
  | 10, _ => exact br_t (by decide) (br_t (by decide) (br_t (by decide) (br_f (by decide) hp)))
  | 11, _ => exact br_t (by decide) (br_t (by decide) (br_t (by decide) (br_f (by decide) hp)))
  | 12, _ => exact br_t (by decide) (br_t (by decide) (br_t (by decide) (br_f (by decide) hp)))
theorem ym_drL {post : Int32 → Prop} {v : Nat} (hv : v ≤ 12) (hp : ∀ z, (6 ≤ v → z = nI (ra_dL v)) → post z) : wpY_dr post (nI c, fv, oa, ol, ov, rk, dm, am, lx, ly, lm, lfx, lfy, lfr, lp, lk, lc, lf, lM) (nI v) 0 := by
  unfold wpY_dr
  match v, hv with
  | 0, _ => exact br_f (by decide) (hp _ (fun z => absurd z (by decide)))
  | 1, _ => exact br_f (by decide) (hp _ (fun z => absurd z (by decide)))
  | 2, _ => exact br_t (by decide) (br_f (by decide) (hp _ (fun z => absurd z (by decide))))
  | 3, _ => exact br_t (by decide) (br_f (by decide) (hp _ (fun z => absurd z (by decide))))
  | 4, _ => exact br_t (by decide) (br_f (by decide) (hp _ (fun z => absurd z (by decide))))
  | 5, _ => exact br_t (by decide) (br_f (by decide) (hp _ (fun z => absurd z (by decide))))
  | 6, _ => exact br_t (by decide) (br_t (by decide) (br_f (by decide) (hp _ (fun _ => rfl))))
  | 7, _ => exact br_t (by decide) (br_t (by decide) (br_f (by decide) (hp _ (fun _ => rfl))))
  | 8, _ => exact br_t (by decide) (br_t (by decide) (br_f (by decide) (hp _ (fun _ => rfl))))
  | 9, _ => exact br_t (by decide) (br_t (by decide) (br_f (by decide) (hp _ (fun _ => rfl))))
  | 10, _ => exact br_t (by decide) (br_t (by decide) (br_t (by decide) (br_t rfl (br_t rfl (hp _ (fun _ => rfl))))))
  | 11, _ => exact br_t (by decide) (br_t (by decide) (br_t (by decide) (br_t rfl (br_f (by decide) (hp _ (fun _ => rfl))))))
  | 12, _ => exact br_t (by decide) (br_t (by decide) (br_t (by decide) (br_t rfl (br_f (by decide) (hp _ (fun _ => rfl))))))
theorem ra_eff_q {v : Int32} {a : Nat} (ha : a ≤ 3) (h : v < 0) (g : 0 ≤ nI a + v) : nI a + v = nI (ra_eff v a) := by
  have e := ra_eff_neg ha h
  rw [Int32.le_iff_toInt_le, ra_t0, e] at g
  unfold ra_eff
  rw [if_pos h]
  apply Int32.toInt_inj.mp
  have h' := h
  rw [Int32.lt_iff_toInt_lt, ra_t0] at h'
  rw [e, nI_toInt (by omega)]
  omega
theorem ym_eff {post : Int32 → Prop} {a : Nat} {v : Int32} (ha : a ≤ 3) (hp : post (nI (ra_eff v a))) : wpY_eff post (nI c, fv, oa, ol, ov, rk, dm, am, lx, ly, lm, lfx, lfy, lfr, lp, lk, lc, lf, lM) v (nI a) := by
  unfold wpY_eff
  by_cases h : v < 0
  · refine br_t h ?_
    by_cases g : 0 ≤ nI a + v
    · rw [← ra_eff_q ha h g] at hp
      exact br_t g hp
    · rw [ra_eff_z ha h (fun z => g (Int32.le_of_lt z))] at hp
      exact br_f g hp
  · refine br_f h ?_
    by_cases g : nI a ≤ v
    · rw [ra_eff_h h (Int32.not_lt.mpr g)] at hp
      exact br_t g hp
    · rw [← ra_eff_l h (Int32.not_le.mp g)] at hp
      exact br_f g hp
theorem ym_lifted {post : Int32 → Prop} {s K i : Nat} {z : ra_A} (hs : s < 11) (hK : K ≤ 3) (hz : z.1 ≤ K) (h : ra_H rk dm am s z) (hi : i < K) (hp : post (nI (ra_lift z (i + (3 - K))))) : wpY_lifted post (nI c, fv, oa, ol, ov, rk, dm, am, lx, ly, lm, lfx, lfy, lfr, lp, lk, lc, lf, lM) (nI s) (nI K) (nI i) := by
  rw [ra_lift_K hz hK hi] at hp
  unfold wpY_lifted
  dsimp only
  rw [nI_clamp (by omega), h.1]
  refine ⟨vp_in_nI hs (by decide), nm_r (pk_sub hz) ?_⟩
  rw [ra_m3, nI_add]
  by_cases g : i < K - z.1
  · rw [if_pos g] at hp
    exact br_f (nI_ge g (by omega)) hp
  · rw [if_neg g] at hp
    refine br_t (nI_le (by omega) (by omega)) ?_
    rw [pk_sub (by omega), show s * 3 + i - (K - z.1) = s * 3 + (i - (K - z.1)) by omega, nI_clamp (by omega), h.2.1 _ (by omega)]
    exact ⟨vp_in_nI (by omega) (by decide), hp⟩
theorem ym_span {post : Int32 → Prop} {L g r : Nat} {F : Nat → Nat} (hL : L < 2) (hfr : lfr L = nI r) (h3 : r ≤ 3) (hg : g ≤ 3) (hF : ∀ i, i < r → lf (L * 3 + i) = nI (F i))
    (h0 : 0 < ra_prod F g (r - g)) (hb : ra_prod F g (r - g) < 2 ^ 31) (hp : post (nI (ra_prod F g (r - g)))) : wpY_span post (nI c, fv, oa, ol, ov, rk, dm, am, lx, ly, lm, lfx, lfy, lfr, lp, lk, lc, lf, lM) (nI L) (nI g) := by
  unfold wpY_span
  refine ra_loop (fun n i => wY_span_5 post (nI L) (nI c) fv oa ol ov rk dm am lx ly lm lfx lfy lfr lp lk lc lf lM n (nI (ra_prod F g i)) (nI (g + i))) (r - g) (fun n => ?_) (fun n i hi ih => ?_) 0 (Nat.zero_le _)
  · simp (disch := omega) only [wY_span_5, wY_span_42, nI_clamp, ra_inI, true_and, hfr]
    exact br_t (nI_le (by omega) (by omega)) (br_t (nI_le (a := 1) h0 hb) hp)
  · simp (disch := omega) only [wY_span_5, ra_m3, nI_add, nI_clamp, ra_inI, true_and, forall_eq, nI_1, hfr, hF (g + i) (by omega), pk_mul]
    refine br_f (nI_ge (by omega) (by omega)) (br_f (by rw [ra_le3 (by omega)]; omega) ?_)
    exact ih
theorem ym_cellOut {post : SY → Prop} {s f p t : Nat} {a : ra_A} (hc : c ≤ 32) (w : ra_W c a) (h : ra_H rk dm am s a) (hs : s < 11) (ht : t < 11) (hst : s ≠ t) (hf : f ≤ a.1) (hpf : p < ra_prod a.2.1 0 f)
    (hp : ∀ rk' dm' am', ra_H rk' dm' am' t (ra_cell a f p) → (∀ j, j ≠ t → ra_S rk dm am rk' dm' am' j) → post (nI c, fv, oa, ol, ov, rk', dm', am', lx, ly, lm, lfx, lfy, lfr, lp, lk, lc, lf, lM)) : wpY_cellOut post (nI c, fv, oa, ol, ov, rk, dm, am, lx, ly, lm, lfx, lfy, lfr, lp, lk, lc, lf, lM) (nI s) (nI f) (nI p) (nI t) := by
  have h3 := w.1
  have wz := (ra_cell_W (p := p) w hf hpf).2.2
  rw [ra_cell_cnt] at wz
  have hin : ∀ i, i < ra_size a f → p * ra_size a f + i < 32 := fun i hi => Nat.lt_of_lt_of_le (ra_cell_in hf hpf hi) (Nat.le_trans w.2.2 hc)
  have fin : post (nI c, fv, oa, ol, ov, upd rk t (nI (a.1 - f)), ra_blk dm (t * 3) (a.1 - f) (fun i => dm (s * 3 + f + i)), ra_blk am (t * 32) (ra_size a f) (fun i => am (s * 32 + (p * ra_size a f + i))), lx, ly, lm, lfx, lfy, lfr, lp, lk, lc, lf, lM) := by
    refine hp _ _ _ ⟨pk_us, fun i hi => ?_, fun i hi => ?_⟩ (fun j hj => ra_S_blk (by omega) (by omega) hj)
    · have hi' : i < a.1 - f := hi
      rw [ra_blk_in hi', Nat.add_assoc, h.2.1 (f + i) (by omega)]; rfl
    · rw [ra_cell_cnt] at hi
      rw [ra_blk_in hi, h.2.2 _ (ra_cell_in hf hpf hi)]; rfl
  unfold wpY_cellOut
  dsimp only
  rw [nI_clamp (by omega), h.1]
  refine ⟨vp_in_nI hs (by decide), nm_r (pk_sub hf) ⟨vp_in_nI ht (by decide), nm_e ?_⟩⟩
  rw [nI_clamp (by omega)]
  refine ra_loop0 (fun n i => wY_cellOut_25 post (nI s) (nI f) (nI p) (nI t) (nI (a.1 - f)) (nI c) fv oa ol ov n (nI (ra_prod a.2.1 f i)) (nI i) (upd rk t (nI (a.1 - f))) (ra_blk dm (t * 3) i (fun i => dm (s * 3 + f + i))) am lx ly lm lfx lfy lfr lp lk lc lf lM) (a.1 - f) (fun n => ?_) (fun n i hi ih => ?_) (fun n h => ?_)
  · simp only [wY_cellOut_25]
    refine br_t (nI_le (Nat.le_refl _) (by omega)) ?_
    refine ra_loop0 (fun n i => wY_cellOut_90 post (nI s) (nI p) (nI t) (nI (ra_size a f)) (nI c) fv oa ol ov n (nI i) (upd rk t (nI (a.1 - f))) (ra_blk dm (t * 3) (a.1 - f) (fun i => dm (s * 3 + f + i))) (ra_blk am (t * 32) i (fun i => am (s * 32 + (p * ra_size a f + i)))) lx ly lm lfx lfy lfr lp lk lc lf lM) (ra_size a f) (fun n => ?_) (fun n i hi ih => ?_) (fun n h => ?_)
    · simp only [wY_cellOut_90]
      exact br_t (nI_le (Nat.le_refl _) (by omega)) fin
    · have hi2 := hin i hi
      simp (disch := omega) only [wY_cellOut_90, ra_m32, pk_mul, nI_add, nI_clamp, ra_inI, true_and, forall_eq, nI_1]
      refine br_f (nI_ge hi (by omega)) (br_f (by rw [ra_le32 (by omega)]; omega) (br_f (nI_pos (by omega)) (br_f (by rw [ra_le32 (by omega)]; omega) ?_)))
      rw [ra_blk_out (by omega), ra_blk_s rfl]
      exact ih
    · rw [ra_blk_0] at h
      exact h
  · simp (disch := omega) only [wY_cellOut_25, ra_m3, nI_add, nI_clamp, ra_inI, true_and, forall_eq, nI_1]
    refine br_f (nI_ge hi (by omega)) (br_f (by rw [ra_le3 (by omega)]; omega) ?_)
    rw [ra_blk_out (by omega), ra_blk_s rfl, ra_blk_out (by omega), Nat.add_assoc (s * 3), h.2.1 (f + i) (by omega), pk_mul]
    exact ih
  · rw [ra_blk_0] at h
    exact h
theorem ym_fillCell {post : Int32 → SY → Prop} {s f t : Nat} {a : ra_A} (hc : c ≤ 32) (w : ra_W c a) (h : ra_H rk dm am s a) (hs : s < 11) (ht : t < 11) (hst : s ≠ t) (hf : f ≤ a.1)
    (hp : ∀ rk' dm' am', (ra_size a f ≤ c → ra_H rk' dm' am' t (ra_fc fv a f)) → (∀ j, j ≠ t → ra_S rk dm am rk' dm' am' j) → post (if ra_size a f ≤ c then 1 else 0) (nI c, fv, oa, ol, ov, rk', dm', am', lx, ly, lm, lfx, lfy, lfr, lp, lk, lc, lf, lM)) :
    wpY_fillCell post (nI c, fv, oa, ol, ov, rk, dm, am, lx, ly, lm, lfx, lfy, lfr, lp, lk, lc, lf, lM) (nI s) (nI f) (nI t) := by
  have h3 := w.1
  have hz := ra_size_le (f := f) hc w
  unfold wpY_fillCell
  dsimp only
  rw [nI_clamp (by omega), h.1]
  refine ⟨vp_in_nI hs (by decide), nm_r (pk_sub hf) ?_⟩
  refine ra_loop0 (fun n i => wY_fillCell_16 post (nI s) (nI f) (nI t) (nI (a.1 - f)) (nI c) fv oa ol ov n (nI (ra_prod a.2.1 f i)) (nI i) rk (ra_blk dm (t * 3) i (fun i => dm (s * 3 + f + i))) am lx ly lm lfx lfy lfr lp lk lc lf lM) (a.1 - f) (fun n => ?_) (fun n i hi ih => ?_) (fun n h => ?_)
  · simp only [wY_fillCell_16]
    refine br_t (nI_le (Nat.le_refl _) (by omega)) ?_
    unfold wY_fillCell_77
    by_cases g : ra_size a f ≤ c
    · refine br_t (show nI (ra_size a f) ≤ nI c from nI_le g (by omega)) ⟨vp_in_nI ht (by decide), nm_e ?_⟩
      rw [nI_clamp (by omega)]
      have fin := hp (upd rk t (nI (a.1 - f))) (ra_blk dm (t * 3) (a.1 - f) (fun i => dm (s * 3 + f + i))) (ra_blk am (t * 32) (ra_size a f) (fun _ => fv)) (fun _ => ⟨pk_us, fun i hi => by
        have hi' : i < a.1 - f := hi
        rw [ra_blk_in hi', Nat.add_assoc, h.2.1 (f + i) (by omega)]; rfl, fun i hi => by
        rw [ra_fc_cnt] at hi
        rw [ra_blk_in hi]; rfl⟩) (fun j hj => ra_S_blk (by omega) (by omega) hj)
      rw [if_pos g] at fin
      show ∃ n, wY_fillCell_99 post (nI t) (nI (ra_size a f)) (nI c) fv oa ol ov n 0 (upd rk t (nI (a.1 - f))) (ra_blk dm (t * 3) (a.1 - f) (fun i => dm (s * 3 + f + i))) am lx ly lm lfx lfy lfr lp lk lc lf lM
      refine ra_loop0 (fun n i => wY_fillCell_99 post (nI t) (nI (ra_size a f)) (nI c) fv oa ol ov n (nI i) (upd rk t (nI (a.1 - f))) (ra_blk dm (t * 3) (a.1 - f) (fun i => dm (s * 3 + f + i))) (ra_blk am (t * 32) i (fun _ => fv)) lx ly lm lfx lfy lfr lp lk lc lf lM) (ra_size a f) (fun n => ?_) (fun n i hi ih => ?_) (fun n h => ?_)
      · simp only [wY_fillCell_99]
        exact br_t (nI_le (Nat.le_refl _) (by omega)) fin
      · simp (disch := omega) only [wY_fillCell_99, ra_m32, nI_add, nI_clamp, ra_inI, true_and, forall_eq, nI_1]
        refine br_f (nI_ge hi (by omega)) (br_f (by rw [ra_le32 (by omega)]; omega) ?_)
        rw [ra_blk_s rfl]
        exact ih
      · rw [ra_blk_0] at h
        exact h
    · have fin := hp rk (ra_blk dm (t * 3) (a.1 - f) (fun i => dm (s * 3 + f + i))) am (fun z => absurd z g) (fun j hj => ⟨rfl, fun i hi => ra_blk_out (by omega), fun _ _ => rfl⟩)
      rw [if_neg g] at fin
      exact br_f (show ¬ nI (ra_size a f) ≤ nI c from nI_ge (by omega) (by omega)) fin
  · simp (disch := omega) only [wY_fillCell_16, ra_m3, nI_add, nI_clamp, ra_inI, true_and, forall_eq, nI_1]
    refine br_f (nI_ge hi (by omega)) (br_f (by rw [ra_le3 (by omega)]; omega) ?_)
    rw [ra_blk_out (by omega), ra_blk_s rfl, ra_blk_out (by omega), Nat.add_assoc (s * 3), h.2.1 (f + i) (by omega), pk_mul]
    exact ih
  · rw [ra_blk_0] at h
    exact h
theorem ym_copySlot {post : SY → Prop} {s t : Nat} (hs : s < 11) (ht : t < 11) (hst : s ≠ t)
    (hp : post (nI c, fv, oa, ol, ov, upd rk t (rk s), ra_blk dm (t * 3) 3 (fun i => dm (s * 3 + i)), ra_blk am (t * 32) 32 (fun i => am (s * 32 + i)), lx, ly, lm, lfx, lfy, lfr, lp, lk, lc, lf, lM)) : wpY_copySlot post (nI c, fv, oa, ol, ov, rk, dm, am, lx, ly, lm, lfx, lfy, lfr, lp, lk, lc, lf, lM) (nI s) (nI t) := by
  unfold wpY_copySlot
  dsimp only
  rw [nI_clamp (by omega), nI_clamp (by omega)]
  refine ⟨vp_in_nI hs (by decide), vp_in_nI ht (by decide), nm_e ?_⟩
  refine ra_loop0 (fun n i => wY_copySlot_14 post (nI s) (nI t) (nI c) fv oa ol ov n (nI i) (upd rk t (rk s)) (ra_blk dm (t * 3) i (fun i => dm (s * 3 + i))) am lx ly lm lfx lfy lfr lp lk lc lf lM) 3 (fun n => ?_) (fun n i hi ih => ?_) (fun n h => ?_)
  · simp only [wY_copySlot_14]
    refine br_t (by decide) ?_
    refine ra_loop0 (fun n i => wY_copySlot_47 post (nI s) (nI t) (nI c) fv oa ol ov n (nI i) (upd rk t (rk s)) (ra_blk dm (t * 3) 3 (fun i => dm (s * 3 + i))) (ra_blk am (t * 32) i (fun i => am (s * 32 + i))) lx ly lm lfx lfy lfr lp lk lc lf lM) 32 (fun n => ?_) (fun n i hi ih => ?_) (fun n h => ?_)
    · simp only [wY_copySlot_47]
      exact br_t (by decide) hp
    · simp (disch := omega) only [wY_copySlot_47, ra_m32, nI_add, nI_clamp, ra_inI, true_and, forall_eq, nI_1]
      refine br_f (by rw [ra_le32 (by omega)]; omega) ?_
      rw [ra_blk_out (by omega), ra_blk_s rfl]
      exact ih
    · rw [ra_blk_0] at h
      exact h
  · simp (disch := omega) only [wY_copySlot_14, ra_m3, nI_add, nI_clamp, ra_inI, true_and, forall_eq, nI_1]
    refine br_f (by rw [ra_le3 (by omega)]; omega) ?_
    rw [ra_blk_out (by omega), ra_blk_s rfl]
    exact ih
  · rw [ra_blk_0] at h
    exact h
theorem ym_ok {post : Int32 → Prop} {p : Int32} (h0 : p < 0 ∨ 4 ≤ p → post 0) (h1 : ∀ s : Nat, s < 4 → p = nI s → post 1) : wpY_ok post (nI c, fv, oa, ol, ov, rk, dm, am, lx, ly, lm, lfx, lfy, lfr, lp, lk, lc, lf, lM) p := by
  unfold wpY_ok
  by_cases a : p < 0
  · exact br_t a (h0 (.inl a))
  · refine br_f a ?_
    by_cases b : 4 ≤ p
    · exact br_t b (h0 (.inr b))
    · obtain ⟨s, hs, rfl⟩ := nI_of a
      exact br_f b (h1 s (by rw [ra_le4 hs] at b; omega) rfl)
end
