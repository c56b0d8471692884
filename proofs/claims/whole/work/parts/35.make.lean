/-! the owed statement: make -/
section
variable {post : Int32 → SX → Prop} {c s tot : Nat} {d0 d1 d2 z0 : Int32} {fv oa ol ov : Int32} {rk dm am xs ys xf yf fs fr wr wd : Nat → Int32}
theorem xm_make135 (hs : s < 4) (ht : tot ≤ 32) (hp : post (nI tot) (nI c, fv, oa, ol, ov, upd rk s z0, upd (upd (upd dm (s * 3) d0) (s * 3 + 1) d1) (s * 3 + 2) d2, ra_blk am (s * 32) tot nI, xs, ys, xf, yf, fs, fr, wr, wd)) :
    wX_make_135 post (nI s) d0 d1 d2 (nI tot) z0 (nI s) (nI c) fv oa ol ov rk dm am xs ys xf yf fs fr wr wd := by
  unfold wX_make_135
  simp (disch := omega) only [ra_m3, nI_1, ra_a2, nI_clamp, ra_inI, true_and, forall_eq]
  refine ra_loop0 (fun n i => wX_make_171 post (nI s) (nI tot) (nI c) fv oa ol ov n (nI i) (upd rk s z0) (upd (upd (upd dm (s * 3) d0) (s * 3 + 1) d1) (s * 3 + 2) d2) (ra_blk am (s * 32) i nI) xs ys xf yf fs fr wr wd) tot (fun n => ?_) (fun n i hi ih => ?_) (fun n h => ?_)
  · simp only [wX_make_171]
    exact br_t (nI_le (Nat.le_refl _) (by omega)) hp
  · simp (disch := omega) only [wX_make_171, ra_m32, nI_add, nI_clamp, ra_inI, true_and, forall_eq, nI_1]
    refine br_f (nI_ge hi (by omega)) ?_
    rw [ra_blk_s rfl]
    exact ih
  · rw [ra_blk_0] at h
    exact h
theorem xm_make31 (hs : s < 4) (v01 : d0 < 0 → d1 < 0) (v12 : d1 < 0 → d2 < 0) (hp : wX_make_31 post (nI s) d0 d1 d2 (nI c) fv oa ol ov rk dm am xs ys xf yf fs fr wr wd) : wpX_make post (nI c, fv, oa, ol, ov, rk, dm, am, xs, ys, xf, yf, fs, fr, wr, wd) (nI s) d0 d1 d2 := by
  have m19 : wX_make_19 post (nI s) d0 d1 d2 (nI c) fv oa ol ov rk dm am xs ys xf yf fs fr wr wd := by
    unfold wX_make_19
    by_cases n1 : d1 < 0
    · exact br_f (Int32.not_le.mpr n1) (br_t (v12 n1) hp)
    · exact br_t (Int32.not_lt.mp n1) hp
  unfold wpX_make
  refine xm_reg1 hs (br_f (by decide) ?_)
  by_cases n0 : d0 < 0
  · exact br_f (Int32.not_le.mpr n0) (br_f (Int32.not_le.mpr (v01 n0)) m19)
  · exact br_t (Int32.not_lt.mp n0) m19
theorem xm_makeB (hs : s < 4) (h : (d0 < 0 ∧ ¬ d1 < 0) ∨ (d1 < 0 ∧ ¬ d2 < 0)) (hp : post (-5) (nI c, fv, oa, ol, ov, rk, dm, am, xs, ys, xf, yf, fs, fr, wr, wd)) : wpX_make post (nI c, fv, oa, ol, ov, rk, dm, am, xs, ys, xf, yf, fs, fr, wr, wd) (nI s) d0 d1 d2 := by
  unfold wpX_make wX_make_19
  refine xm_reg1 hs (br_f (by decide) ?_)
  by_cases n1 : d1 < 0
  · have n2 : ¬ d2 < 0 := h.elim (fun z => absurd n1 z.2) (fun z => z.2)
    by_cases n0 : d0 < 0
    · exact br_f (Int32.not_le.mpr n0) (br_f (Int32.not_le.mpr n1) (br_f (Int32.not_le.mpr n1) (br_f n2 hp)))
    · exact br_t (Int32.not_lt.mp n0) (br_f (Int32.not_le.mpr n1) (br_f n2 hp))
  · have n0 : d0 < 0 := h.elim (fun z => z.1) (fun z => absurd z.1 n1)
    exact br_f (Int32.not_le.mpr n0) (br_t (Int32.not_lt.mp n1) hp)
end
section
variable {post : Int32 → SY → Prop} {c s tot : Nat} {d0 d1 d2 z0 : Int32} {fv oa ol ov : Int32} {rk dm am lx ly lm lfx lfy lfr lp lk lc lf lM : Nat → Int32}
theorem ym_make111 (hs : s < 4) (hc : c ≤ 32) (hb : tot < 2 ^ 31) (h0 : ¬ tot ≤ c → post (-4) (nI c, fv, oa, ol, ov, rk, dm, am, lx, ly, lm, lfx, lfy, lfr, lp, lk, lc, lf, lM))
    (h1 : tot ≤ c → post (nI tot) (nI c, fv, oa, ol, ov, upd rk s z0, upd (upd (upd dm (s * 3) d0) (s * 3 + 1) d1) (s * 3 + 2) d2, ra_blk am (s * 32) tot nI, lx, ly, lm, lfx, lfy, lfr, lp, lk, lc, lf, lM)) :
    wY_make_111 post (nI s) d0 d1 d2 z0 (nI tot) (nI c) fv oa ol ov rk dm am lx ly lm lfx lfy lfr lp lk lc lf lM := by
  unfold wY_make_111
  by_cases g : tot ≤ c
  · refine br_t (nI_le g (by omega)) ?_
    simp (disch := omega) only [ra_m3, nI_1, ra_a2, nI_clamp, ra_inI, true_and, forall_eq]
    refine ra_loop0 (fun n i => wY_make_166 post (nI s) (nI tot) (nI c) fv oa ol ov n (nI i) (upd rk s z0) (upd (upd (upd dm (s * 3) d0) (s * 3 + 1) d1) (s * 3 + 2) d2) (ra_blk am (s * 32) i nI) lx ly lm lfx lfy lfr lp lk lc lf lM) tot (fun n => ?_) (fun n i hi ih => ?_) (fun n h => ?_)
    · simp only [wY_make_166]
      exact br_t (nI_le (Nat.le_refl _) (by omega)) (h1 g)
    · simp (disch := omega) only [wY_make_166, ra_m32, nI_add, nI_clamp, ra_inI, true_and, forall_eq, nI_1]
      refine br_f (nI_ge hi (by omega)) (br_f (by rw [ra_le32 (by omega)]; omega) ?_)
      rw [ra_blk_s rfl]
      exact ih
    · rw [ra_blk_0] at h
      exact h
  · exact br_f (nI_ge (by omega) hb) (h0 g)
theorem ym_make39 (hs : s < 4) (v01 : d0 < 0 → d1 < 0) (v12 : d1 < 0 → d2 < 0) (hp : wY_make_39 post (nI s) d0 d1 d2 (nI c) fv oa ol ov rk dm am lx ly lm lfx lfy lfr lp lk lc lf lM) : wpY_make post (nI c, fv, oa, ol, ov, rk, dm, am, lx, ly, lm, lfx, lfy, lfr, lp, lk, lc, lf, lM) (nI s) d0 d1 d2 := by
  have m27 : wY_make_27 post (nI s) d0 d1 d2 (nI c) fv oa ol ov rk dm am lx ly lm lfx lfy lfr lp lk lc lf lM := by
    unfold wY_make_27
    by_cases n1 : d1 < 0
    · exact br_f (Int32.not_le.mpr n1) (br_t (v12 n1) hp)
    · exact br_t (Int32.not_lt.mp n1) hp
  unfold wpY_make
  refine ym_ok1 hs (br_f (by decide) ?_)
  by_cases n0 : d0 < 0
  · exact br_f (Int32.not_le.mpr n0) (br_f (Int32.not_le.mpr (v01 n0)) (br_t (v12 (v01 n0)) m27))
  · exact br_t (Int32.not_lt.mp n0) m27
theorem ym_makeB (hs : s < 4) (h : (d0 < 0 ∧ ¬ d1 < 0) ∨ (d1 < 0 ∧ ¬ d2 < 0)) (hp : post (-5) (nI c, fv, oa, ol, ov, rk, dm, am, lx, ly, lm, lfx, lfy, lfr, lp, lk, lc, lf, lM)) : wpY_make post (nI c, fv, oa, ol, ov, rk, dm, am, lx, ly, lm, lfx, lfy, lfr, lp, lk, lc, lf, lM) (nI s) d0 d1 d2 := by
  unfold wpY_make wY_make_27
  refine ym_ok1 hs (br_f (by decide) ?_)
  by_cases n1 : d1 < 0
  · have n2 : ¬ d2 < 0 := h.elim (fun z => absurd n1 z.2) (fun z => z.2)
    by_cases n0 : d0 < 0
    · exact br_f (Int32.not_le.mpr n0) (br_f (Int32.not_le.mpr n1) (br_f n2 hp))
    · exact br_t (Int32.not_lt.mp n0) (br_f (Int32.not_le.mpr n1) (br_f n2 hp))
  · have n0 : d0 < 0 := h.elim (fun z => z.1) (fun z => absurd z.1 n1)
    exact br_f (Int32.not_le.mpr n0) (br_t (Int32.not_lt.mp n1) hp)
end
theorem iv_H3 {rk dm am : Nat → Int32} {s r tot : Nat} {d0 d1 d2 : Int32} {dd : Nat → Nat} (hr : r ≤ 3) (hcnt : ra_prod dd 0 r = tot) (e0 : 0 < r → d0 = nI (dd 0)) (e1 : 1 < r → d1 = nI (dd 1)) (e2 : 2 < r → d2 = nI (dd 2)) :
    ra_H (upd rk s (nI r)) (upd (upd (upd dm (s * 3) d0) (s * 3 + 1) d1) (s * 3 + 2) d2) (ra_blk am (s * 32) tot nI) s (r, dd, nI) := by
  refine ⟨pk_us, fun i hi => ?_, fun i hi => ?_⟩
  · have hi' : i < r := hi
    show upd (upd (upd dm (s * 3) d0) (s * 3 + 1) d1) (s * 3 + 2) d2 (s * 3 + i) = nI (dd i)
    match i, hi' with
    | 0, h => rw [pk_un (by omega), pk_un (by omega)]; exact pk_us.trans (e0 h)
    | 1, h => rw [pk_un (by omega)]; exact pk_us.trans (e1 h)
    | 2, h => exact pk_us.trans (e2 h)
    | i + 3, h => omega
  · have hi' : i < tot := by rw [← hcnt]; exact hi
    exact ra_blk_in hi'
theorem iv_make {k c s r tot : Nat} {d0 d1 d2 : Int32} {fv oa ol ov : Int32} {rk dm am xs ys xf yf fs fr wr wd rk' dm' am' lx' ly' lm' lfx' lfy' lfr' lp' lk' lc' lf' lM' : Nat → Int32} {dd : Nat → Nat} (h8 : 8 ≤ c) (hc : c ≤ 32) (hR : iv_R c rk dm am rk' dm' am') (hs : s < 4)
    (hr : r ≤ 3) (hdd : ∀ i, i < r → dd i ≤ c) (hcnt : ra_prod dd 0 r = tot) (e0 : 0 < r → d0 = nI (dd 0)) (e1 : 1 < r → d1 = nI (dd 1)) (e2 : 2 < r → d2 = nI (dd 2)) (hb : tot < 2 ^ 31)
    (hX : ∀ post : Int32 → SX → Prop, (¬ tot ≤ c → post (-4) (nI c, fv, oa, ol, ov, rk, dm, am, xs, ys, xf, yf, fs, fr, wr, wd)) → (tot ≤ c → wX_make_135 post (nI s) d0 d1 d2 (nI tot) (nI r) (nI s) (nI c) fv oa ol ov rk dm am xs ys xf yf fs fr wr wd) → wpX_make post (nI c, fv, oa, ol, ov, rk, dm, am, xs, ys, xf, yf, fs, fr, wr, wd) (nI s) d0 d1 d2)
    (hY : ∀ post : Int32 → SY → Prop, wY_make_111 post (nI s) d0 d1 d2 (nI r) (nI tot) (nI c) fv oa ol ov rk' dm' am' lx' ly' lm' lfx' lfy' lfr' lp' lk' lc' lf' lM' → wpY_make post (nI c, fv, oa, ol, ov, rk', dm', am', lx', ly', lm', lfx', lfy', lfr', lp', lk', lc', lf', lM') (nI s) d0 d1 d2) :
    wpX_make (fun r u' => wpY_make (fun r' v' => r' = r ∧ i_Rel k u' v') (nI c, fv, oa, ol, ov, rk', dm', am', lx', ly', lm', lfx', lfy', lfr', lp', lk', lc', lf', lM') (nI s) d0 d1 d2) (nI c, fv, oa, ol, ov, rk, dm, am, xs, ys, xf, yf, fs, fr, wr, wd) (nI s) d0 d1 d2 := by
  refine hX _ (fun g => hY _ (ym_make111 hs hc hb (fun _ => ⟨rfl, iv_mk h8 hc hR⟩) (fun z => absurd z g))) (fun g => xm_make135 hs (by omega) (hY _ (ym_make111 hs hc hb (fun z => absurd g z) (fun _ => ⟨rfl, iv_mk h8 hc ?_⟩))))
  refine iv_put (a := (r, dd, nI)) hc (by omega) hR hs ⟨hr, hdd, Nat.le_trans (Nat.le_of_eq hcnt) g⟩ (iv_H3 hr hcnt e0 e1 e2) (iv_H3 hr hcnt e0 e1 e2) (fun j _ hj => ?_) (fun j _ hj => ?_)
  · exact ⟨pk_un hj, fun i hi => by rw [pk_un (by omega), pk_un (by omega), pk_un (by omega)], fun i hi => ra_blk_out (by omega)⟩
  · exact ⟨pk_un hj, fun i hi => by rw [pk_un (by omega), pk_un (by omega), pk_un (by omega)], fun i hi => ra_blk_out (by omega)⟩
