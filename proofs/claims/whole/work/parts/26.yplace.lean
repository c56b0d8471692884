/-! the reference: placing -/
section
variable {c : Nat} {fv oa ol ov : Int32} {rk dm am lx ly lm lfx lfy lfr lp lk lc lf lM : Nat → Int32}
theorem ym_151 {post : SY → Prop} {J : Int32 → (Nat → Int32) → (Nat → Int32) → (Nat → Int32) → (Nat → Int32) → (Nat → Int32) → (Nat → Int32) → (Nat → Int32) → (Nat → Int32) → (Nat → Int32) → (Nat → Int32) → (Nat → Int32) → (Nat → Int32) → (Nat → Int32) → (Nat → Int32) → Prop}
    {L K q zs o M u : Nat} {w : Nat → Nat} {z : ra_A} (hL : L < 2) (hz : zs < 11) (ho : o < 11) (hc : c ≤ 32) (h1 : 1 ≤ c) (k3 : K ≤ 3) (zK : z.1 ≤ K) (h : ra_H rk dm am zs z) (wz : ra_W c z)
    (w32 : ∀ j, j < 3 → w j ≤ c) (w1 : ∀ j, j < 3 - K → w j = 1) (vM : ∀ i, i < K → lM (L * 3 + i) = nI (w (i + (3 - K)))) (hu : u < w 0 * w 1 * w 2) (hq : q * M + u < 32)
    (hp : J (nI (u + 1)) rk dm (upd am (o * 32 + (q * M + u)) (ra_pl fv (w 1) (w 2) z u)) lx ly lm lfx lfy lfr lp lk lc lf lM) :
    ∃ n, wY_absorb_151 post J (nI L) (nI q) (nI zs) (nI o) (nI K) (nI M) (nI u) (nI c) fv oa ol ov rk dm am lx ly lm lfx lfy lfr lp lk lc lf lM n (nI u) 0 1 1 (nI K - 1) := by
  have z3 := wz.1
  have cc := wz.2.2
  have a0 := w32 0 (by decide)
  have a1 := w32 1 (by decide)
  have a2 := w32 2 (by decide)
  have l0 := ra_lift_le wz h1 (j := 0) (by decide)
  have l1 := ra_lift_le wz h1 (j := 1) (by decide)
  have l2 := ra_lift_le wz h1 (j := 2) (by decide)
  have hin : ∀ i j k, i < ra_lift z 0 → j < ra_lift z 1 → k < ra_lift z 2 → (i * ra_lift z 1 + j) * ra_lift z 2 + k < ra_cnt z := fun i j k hi hj hk => by
    rw [← ra_lift_p z3]; exact ra_in3 hi hj hk
  have p2 : 0 < w 2 := by
    cases Nat.eq_zero_or_pos (w 2) with
    | inl e => rw [e, Nat.mul_zero] at hu; omega
    | inr e => exact e
  have p01 : 0 < w 0 * w 1 := by
    cases Nat.eq_zero_or_pos (w 0 * w 1) with
    | inl e => rw [e, Nat.zero_mul] at hu; omega
    | inr e => exact e
  have p1 : 0 < w 1 := Nat.pos_of_mul_pos_left p01
  have p0 : 0 < w 0 := Nat.pos_of_mul_pos_right p01
  have u31 : u < 2 ^ 31 := by omega
  have e1 : u / w 2 < 2 ^ 31 := Nat.lt_of_le_of_lt (Nat.div_le_self _ _) u31
  have e2 : u / w 2 / w 1 < 2 ^ 31 := Nat.lt_of_le_of_lt (Nat.div_le_self _ _) e1
  match K, k3, zK, w1, vM with
  | 0, _, zK, w1, vM =>
    have b0 := w1 0 (by decide)
    have b1 := w1 1 (by decide)
    have b2 := w1 2 (by decide)
    have u0 : u = 0 := by rw [b0, b1, b2] at hu; omega
    refine ⟨1, ym_151x (s := 0) (val := ra_pl fv (w 1) (w 2) z u) hz ho hq (by decide) (.inr ⟨by decide, by decide, ?_⟩) hp⟩
    rw [b1, b2, u0, ra_pl_0 (Nat.le_zero.mp zK)]
    exact (h.2.2 0 (by rw [ra_cnt_r0 (Nat.le_zero.mp zK)]; decide)).symm
  | 1, k3, zK, w1, vM =>
    have b0 := w1 0 (by decide)
    have b1 := w1 1 (by decide)
    have hu2 : u < w 2 := by rw [b0, b1] at hu; omega
    have c0 : ra_lift z 0 = 1 := by unfold ra_lift; rw [if_pos (by omega)]
    have c1 : ra_lift z 1 = 1 := by unfold ra_lift; rw [if_pos (by omega)]
    refine ⟨2, ?_⟩
    rw [show nI 1 - 1 = nI 0 from pk_sub (a := 1) (b := 1) (by decide)]
    refine ym_151s (i := 0) (Mi := w 2) (rr := u) (s := 0) (m := 1) hL hz k3 zK h (by decide) (vM 0 (by decide)) p2 (by omega) u31 (by show ra_lift z 2 < 2 ^ 31; omega) ?_
    refine ym_151x (val := ra_pl fv (w 1) (w 2) z u) hz ho hq (by decide) ?_ hp
    rw [b1, ra_pl_1 zK hu2]
    by_cases g : u % w 2 < ra_lift z 2
    · have bd := hin 0 0 (u % w 2) (by omega) (by omega) g
      rw [if_pos g, if_pos (show u % w 2 < ra_lift z (0 + (3 - 1)) from g)]
      refine .inr ⟨by decide, by omega, ?_⟩
      rw [Nat.zero_add, Nat.mul_one]
      exact (h.2.2 _ (by omega)).symm
    · rw [if_neg g, if_neg (show ¬ u % w 2 < ra_lift z (0 + (3 - 1)) from g)]
      exact .inl ⟨rfl, rfl⟩
  | 2, k3, zK, w1, vM =>
    have b0 := w1 0 (by decide)
    have hu2 : u < w 1 * w 2 := by rw [b0, Nat.one_mul] at hu; exact hu
    have c0 : ra_lift z 0 = 1 := by unfold ra_lift; rw [if_pos (by omega)]
    refine ⟨3, ?_⟩
    rw [show nI 2 - 1 = nI 1 from pk_sub (a := 2) (b := 1) (by decide)]
    refine ym_151s (i := 1) (Mi := w 2) (rr := u) (s := 0) (m := 1) hL hz k3 zK h (by decide) (vM 1 (by decide)) p2 (by omega) u31 (by show ra_lift z 2 < 2 ^ 31; omega) ?_
    rw [show nI 1 + (-1) = nI 0 from pk_m1 0]
    refine ym_151s (i := 0) (Mi := w 1) (rr := u / w 2) hL hz k3 zK h (by decide) (vM 0 (by decide)) p1 (by omega) e1 (by show ra_lift z 1 < 2 ^ 31; omega) ?_
    refine ym_151x (val := ra_pl fv (w 1) (w 2) z u) hz ho hq (by decide) ?_ hp
    rw [ra_pl_2 zK hu2]
    by_cases g2 : u % w 2 < ra_lift z 2
    · rw [if_pos (show u % w 2 < ra_lift z (1 + (3 - 2)) from g2)]
      by_cases g1 : u / w 2 % w 1 < ra_lift z 1
      · have bd := hin 0 (u / w 2 % w 1) (u % w 2) (by omega) g1 g2
        rw [ra_ix3, Nat.zero_mul, Nat.add_zero] at bd
        rw [if_pos (show u % w 2 < ra_lift z 2 ∧ u / w 2 % w 1 < ra_lift z 1 from ⟨g2, g1⟩), if_pos (show u / w 2 % w 1 < ra_lift z (0 + (3 - 2)) from g1)]
        have es : 0 + u % w 2 * 1 + u / w 2 % w 1 * (1 * ra_lift z (1 + (3 - 2))) = u % w 2 + u / w 2 % w 1 * ra_lift z 2 := by
          show 0 + u % w 2 * 1 + u / w 2 % w 1 * (1 * ra_lift z 2) = u % w 2 + u / w 2 % w 1 * ra_lift z 2
          rw [Nat.zero_add, Nat.mul_one, Nat.one_mul]
        rw [es]
        exact .inr ⟨by decide, by omega, (h.2.2 _ bd).symm⟩
      · rw [if_neg (show ¬ (u % w 2 < ra_lift z 2 ∧ u / w 2 % w 1 < ra_lift z 1) from fun y => g1 y.2), if_neg (show ¬ u / w 2 % w 1 < ra_lift z (0 + (3 - 2)) from g1)]
        exact .inl ⟨rfl, rfl⟩
    · rw [if_neg (show ¬ (u % w 2 < ra_lift z 2 ∧ u / w 2 % w 1 < ra_lift z 1) from fun y => g2 y.1), if_neg (show ¬ u % w 2 < ra_lift z (1 + (3 - 2)) from g2)]
      exact .inl ⟨by split <;> rfl, rfl⟩
  | 3, k3, zK, w1, vM =>
    refine ⟨4, ?_⟩
    rw [show nI 3 - 1 = nI 2 from pk_sub (a := 3) (b := 1) (by decide)]
    refine ym_151s (i := 2) (Mi := w 2) (rr := u) (s := 0) (m := 1) hL hz k3 zK h (by decide) (vM 2 (by decide)) p2 (by omega) u31 (by show ra_lift z 2 < 2 ^ 31; omega) ?_
    rw [show nI 2 + (-1) = nI 1 from pk_m1 1]
    refine ym_151s (i := 1) (Mi := w 1) (rr := u / w 2) hL hz k3 zK h (by decide) (vM 1 (by decide)) p1 (by omega) e1 (by show ra_lift z 1 < 2 ^ 31; omega) ?_
    rw [show nI 1 + (-1) = nI 0 from pk_m1 0]
    refine ym_151s (i := 0) (Mi := w 0) (rr := u / w 2 / w 1) hL hz k3 zK h (by decide) (vM 0 (by decide)) p0 (by omega) e2 (by show ra_lift z 0 < 2 ^ 31; omega) ?_
    refine ym_151x (val := ra_pl fv (w 1) (w 2) z u) hz ho hq (by decide) ?_ hp
    rw [ra_pl_3 hu]
    by_cases g2 : u % w 2 < ra_lift z 2
    · rw [if_pos (show u % w 2 < ra_lift z (2 + (3 - 3)) from g2)]
      by_cases g1 : u / w 2 % w 1 < ra_lift z 1
      · rw [if_pos (show u / w 2 % w 1 < ra_lift z (1 + (3 - 3)) from g1)]
        by_cases g0 : u / w 2 / w 1 % w 0 < ra_lift z 0
        · have bd := hin (u / w 2 / w 1 % w 0) (u / w 2 % w 1) (u % w 2) g0 g1 g2
          rw [ra_ix3] at bd
          rw [if_pos (show u % w 2 < ra_lift z 2 ∧ u / w 2 % w 1 < ra_lift z 1 ∧ u / w 2 / w 1 % w 0 < ra_lift z 0 from ⟨g2, g1, g0⟩), if_pos (show u / w 2 / w 1 % w 0 < ra_lift z (0 + (3 - 3)) from g0)]
          have es : 0 + u % w 2 * 1 + u / w 2 % w 1 * (1 * ra_lift z (2 + (3 - 3))) + u / w 2 / w 1 % w 0 * (1 * ra_lift z (2 + (3 - 3)) * ra_lift z (1 + (3 - 3))) = u % w 2 + u / w 2 % w 1 * ra_lift z 2 + u / w 2 / w 1 % w 0 * (ra_lift z 2 * ra_lift z 1) := by
            show 0 + u % w 2 * 1 + u / w 2 % w 1 * (1 * ra_lift z 2) + u / w 2 / w 1 % w 0 * (1 * ra_lift z 2 * ra_lift z 1) = u % w 2 + u / w 2 % w 1 * ra_lift z 2 + u / w 2 / w 1 % w 0 * (ra_lift z 2 * ra_lift z 1)
            rw [Nat.zero_add, Nat.mul_one, Nat.one_mul]
          rw [es]
          exact .inr ⟨by decide, by omega, (h.2.2 _ bd).symm⟩
        · rw [if_neg (show ¬ (u % w 2 < ra_lift z 2 ∧ u / w 2 % w 1 < ra_lift z 1 ∧ u / w 2 / w 1 % w 0 < ra_lift z 0) from fun y => g0 y.2.2), if_neg (show ¬ u / w 2 / w 1 % w 0 < ra_lift z (0 + (3 - 3)) from g0)]
          exact .inl ⟨rfl, rfl⟩
      · rw [if_neg (show ¬ (u % w 2 < ra_lift z 2 ∧ u / w 2 % w 1 < ra_lift z 1 ∧ u / w 2 / w 1 % w 0 < ra_lift z 0) from fun y => g1 y.2.1), if_neg (show ¬ u / w 2 % w 1 < ra_lift z (1 + (3 - 3)) from g1)]
        exact .inl ⟨by split <;> rfl, rfl⟩
    · rw [if_neg (show ¬ (u % w 2 < ra_lift z 2 ∧ u / w 2 % w 1 < ra_lift z 1 ∧ u / w 2 / w 1 % w 0 < ra_lift z 0) from fun y => g2 y.1), if_neg (show ¬ u % w 2 < ra_lift z (2 + (3 - 3)) from g2)]
      exact .inl ⟨by split <;> (try split) <;> rfl, rfl⟩
theorem ym_absorb2 {post : SY → Prop} {L K q zs o M : Nat} {w : Nat → Nat} {z : ra_A} (hL : L < 2) (hz : zs < 11) (ho : o < 11) (hzo : zs ≠ o) (hc : c ≤ 32) (h1 : 1 ≤ c) (k3 : K ≤ 3) (zK : z.1 ≤ K) (h : ra_H rk dm am zs z) (wz : ra_W c z)
    (w32 : ∀ j, j < 3 → w j ≤ c) (w1 : ∀ j, j < 3 - K → w j = 1) (vK : lk L = nI K) (vC : lc L = nI M) (vM : ∀ i, i < K → lM (L * 3 + i) = nI (w (i + (3 - K)))) (eM : M = w 0 * w 1 * w 2) (hM : q * M + M ≤ 32)
    (hp : post (nI c, fv, oa, ol, ov, rk, dm, ra_blk am (o * 32 + q * M) M (fun i => ra_pl fv (w 1) (w 2) z i), lx, ly, lm, lfx, lfy, lfr, lp, lk, lc, lf, lM)) : wpY_absorb post (nI c, fv, oa, ol, ov, rk, dm, am, lx, ly, lm, lfx, lfy, lfr, lp, lk, lc, lf, lM) (nI L) 2 (nI q) (nI zs) (nI o) := by
  have cc := wz.2.2
  unfold wpY_absorb
  dsimp only
  rw [nI_clamp (by omega), vK, vC]
  refine ⟨vp_in_nI hL (by decide), nm_e (br_f (by decide) (br_f (by decide) ⟨vp_in_nI hL (by decide), nm_e ?_⟩))⟩
  refine ra_loop0 (fun n i => wY_absorb_118 post (nI L) (nI q) (nI zs) (nI o) (nI K) (nI M) (nI c) fv oa ol ov n (nI i) rk dm (ra_blk am (o * 32 + q * M) i (fun i => ra_pl fv (w 1) (w 2) z i)) lx ly lm lfx lfy lfr lp lk lc lf lM) M (fun n => ?_) (fun n u hu ih => ?_) (fun n h => ?_)
  · simp only [wY_absorb_118]
    exact br_t (nI_le (Nat.le_refl _) (by omega)) hp
  · simp only [wY_absorb_118]
    refine br_f (nI_ge hu (by omega)) (br_f (by rw [ra_le32 (by omega)]; omega) (nm_e ?_))
    refine ym_151 hL hz ho hc h1 k3 zK ⟨h.1, h.2.1, fun i hi => (ra_blk_out (by omega)).trans (h.2.2 i hi)⟩ wz w32 w1 vM (by rw [← eM]; exact hu) (by omega) ?_
    rw [← Nat.add_assoc, ra_blk_s rfl]
    exact ih
  · rw [ra_blk_0] at h
    exact h
end
