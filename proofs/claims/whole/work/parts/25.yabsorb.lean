/-! the reference: absorb -/
section
variable {c : Nat} {fv oa ol ov : Int32} {rk dm am lx ly lm lfx lfy lfr lp lk lc lf lM : Nat → Int32}
theorem ym_absorb0 {post : SY → Prop} {L K zs : Nat} {z : ra_A} {q o : Int32} (hL : L < 2) (hz : zs < 11) (k3 : K ≤ 3) (z3 : z.1 ≤ 3) (vK : lk L = nI K) (h : ra_H rk dm am zs z)
    (hp : ∀ lk', lk' L = nI (if K < z.1 then z.1 else K) → (∀ N, N ≠ L → lk' N = lk N) → post (nI c, fv, oa, ol, ov, rk, dm, am, lx, ly, lm, lfx, lfy, lfr, lp, lk', lc, lf, lM)) : wpY_absorb post (nI c, fv, oa, ol, ov, rk, dm, am, lx, ly, lm, lfx, lfy, lfr, lp, lk, lc, lf, lM) (nI L) 0 q (nI zs) o := by
  unfold wpY_absorb
  dsimp only
  simp (disch := omega) only [nI_clamp, ra_inI, true_and, forall_eq, vK, h.1]
  refine br_t True.intro ?_
  by_cases g : K < z.1
  · exact br_f (nI_ge g (by omega)) (hp _ (by rw [pk_us, if_pos g]) (fun N hN => pk_un hN))
  · exact br_t (nI_le (by omega) (by omega)) (hp lk (by rw [vK, if_neg g]) (fun _ _ => rfl))
theorem ym_absorb1 {post : SY → Prop} {L K zs : Nat} {m : Nat → Nat} {z : ra_A} {q o : Int32} (hL : L < 2) (hz : zs < 11) (hc : c ≤ 32) (h1 : 1 ≤ c) (k3 : K ≤ 3) (zK : z.1 ≤ K) (vK : lk L = nI K) (h : ra_H rk dm am zs z) (wz : ra_W c z)
    (m32 : ∀ i, i < K → m i ≤ c) (vM : ∀ i, i < K → lM (L * 3 + i) = nI (m i))
    (hp : ∀ lM', (∀ i, i < K → lM' (L * 3 + i) = nI (if m i < ra_lift z (i + (3 - K)) then ra_lift z (i + (3 - K)) else m i)) → (∀ N, N ≠ L → ∀ i, i < 3 → lM' (N * 3 + i) = lM (N * 3 + i)) → post (nI c, fv, oa, ol, ov, rk, dm, am, lx, ly, lm, lfx, lfy, lfr, lp, lk, lc, lf, lM')) :
    wpY_absorb post (nI c, fv, oa, ol, ov, rk, dm, am, lx, ly, lm, lfx, lfy, lfr, lp, lk, lc, lf, lM) (nI L) 1 q (nI zs) o := by
  unfold wpY_absorb
  dsimp only
  rw [nI_clamp (by omega), vK]
  refine ⟨vp_in_nI hL (by decide), nm_e (br_f (by decide) (br_t rfl ?_))⟩
  refine ra_loop0 (fun n i => wY_absorb_46 post (nI L) (nI zs) (nI K) (nI c) fv oa ol ov n (nI i) rk dm am lx ly lm lfx lfy lfr lp lk lc lf (ra_blk lM (L * 3) i (fun i => nI (if m i < ra_lift z (i + (3 - K)) then ra_lift z (i + (3 - K)) else m i)))) K (fun n => ?_) (fun n i hi ih => ?_) (fun n h => ?_)
  · simp only [wY_absorb_46]
    exact br_t (nI_le (Nat.le_refl _) (by omega)) (hp _ (fun i hi => ra_blk_in hi) (fun N hN i hi => ra_blk_out (by omega)))
  · have l32 := ra_lift_le wz h1 (show i + (3 - K) < 3 by omega)
    have v32 := m32 i hi
    simp (disch := omega) only [wY_absorb_46, ra_m3, nI_add, nI_clamp, ra_inI, true_and, forall_eq, nI_1]
    refine br_f (nI_ge hi (by omega)) (br_f (by rw [ra_le3 (by omega)]; omega) ?_)
    refine ym_lifted hz k3 zK h hi ?_
    rw [ra_blk_out (by omega), vM i hi]
    by_cases g : m i < ra_lift z (i + (3 - K))
    · refine br_f (nI_ge g (by omega)) ?_
      rw [ra_blk_s (by rw [if_pos g])]
      exact ih
    · refine br_t (nI_le (by omega) (by omega)) ?_
      have e : ra_blk lM (L * 3) (i + 1) (fun i => nI (if m i < ra_lift z (i + (3 - K)) then ra_lift z (i + (3 - K)) else m i)) = ra_blk lM (L * 3) i (fun i => nI (if m i < ra_lift z (i + (3 - K)) then ra_lift z (i + (3 - K)) else m i)) := funext fun j => by
        by_cases y : j = L * 3 + i
        · subst y
          rw [ra_blk_in (Nat.lt_succ_self i), ra_blk_out (by omega), if_neg g, vM i hi]
        · by_cases u : L * 3 ≤ j ∧ j < L * 3 + i
          · obtain ⟨k, rfl⟩ : ∃ k, j = L * 3 + k := ⟨j - L * 3, by omega⟩
            rw [ra_blk_in (by omega), ra_blk_in (by omega)]
          · rw [ra_blk_out (by omega), ra_blk_out (by omega)]
      rw [e] at ih
      exact ih
  · rw [ra_blk_0] at h
    exact h
/-- the end of the taking apart -/
theorem ym_151x {post : SY → Prop} {J : Int32 → (Nat → Int32) → (Nat → Int32) → (Nat → Int32) → (Nat → Int32) → (Nat → Int32) → (Nat → Int32) → (Nat → Int32) → (Nat → Int32) → (Nat → Int32) → (Nat → Int32) → (Nat → Int32) → (Nat → Int32) → (Nat → Int32) → (Nat → Int32) → Prop}
    {a1 a6 a9 a11 inn a13 val : Int32} {q zs o M u s n : Nat} (hz : zs < 11) (ho : o < 11) (hq : q * M + u < 32) (h13 : a13 < 0)
    (hv : (inn = 0 ∧ val = fv) ∨ (inn ≠ 0 ∧ s < 32 ∧ val = am (zs * 32 + s)))
    (hp : J (nI (u + 1)) rk dm (upd am (o * 32 + (q * M + u)) val) lx ly lm lfx lfy lfr lp lk lc lf lM) : wY_absorb_151 post J a1 (nI q) (nI zs) (nI o) a6 (nI M) (nI u) (nI c) fv oa ol ov rk dm am lx ly lm lfx lfy lfr lp lk lc lf lM (n + 1) a9 (nI s) a11 inn a13 := by
  rw [wY_absorb_151]
  refine br_t h13 ?_
  rw [pk_mul, nI_add]
  refine nm_e (br_f (nI_pos (by omega)) (br_f (by rw [ra_le32 (by omega)]; omega) ?_))
  rcases hv with ⟨i0, rfl⟩ | ⟨i0, hs, rfl⟩
  · refine br_t i0 ?_
    simp (disch := omega) only [ra_m32, nI_add, nI_clamp, ra_inI, true_and, forall_eq, nI_1]
    exact hp
  · refine br_f i0 (br_f (nI_pos (by omega)) (br_f (by rw [ra_le32 (by omega)]; omega) ?_))
    simp (disch := omega) only [ra_m32, nI_add, nI_clamp, ra_inI, true_and, forall_eq, nI_1]
    exact hp
/-- one axis taken off -/
theorem ym_151s {post : SY → Prop} {J : Int32 → (Nat → Int32) → (Nat → Int32) → (Nat → Int32) → (Nat → Int32) → (Nat → Int32) → (Nat → Int32) → (Nat → Int32) → (Nat → Int32) → (Nat → Int32) → (Nat → Int32) → (Nat → Int32) → (Nat → Int32) → (Nat → Int32) → (Nat → Int32) → Prop}
    {a3 a5 a7 a8 inn : Int32} {L K zs i Mi rr s m n : Nat} {z : ra_A} (hL : L < 2) (hz : zs < 11) (k3 : K ≤ 3) (zK : z.1 ≤ K) (h : ra_H rk dm am zs z) (hi : i < K) (vM : lM (L * 3 + i) = nI Mi) (p : 0 < Mi) (hM : Mi < 2 ^ 31) (hr : rr < 2 ^ 31) (hl : ra_lift z (i + (3 - K)) < 2 ^ 31)
    (hp : wY_absorb_151 post J (nI L) a3 (nI zs) a5 (nI K) a7 a8 (nI c) fv oa ol ov rk dm am lx ly lm lfx lfy lfr lp lk lc lf lM n (nI (rr / Mi)) (nI (s + rr % Mi * m)) (nI (m * ra_lift z (i + (3 - K)))) (if rr % Mi < ra_lift z (i + (3 - K)) then inn else 0) (nI i + (-1))) :
    wY_absorb_151 post J (nI L) a3 (nI zs) a5 (nI K) a7 a8 (nI c) fv oa ol ov rk dm am lx ly lm lfx lfy lfr lp lk lc lf lM (n + 1) (nI rr) (nI s) (nI m) inn (nI i) := by
  have hm := Nat.mod_lt rr p
  rw [wY_absorb_151]
  refine br_f (nI_pos (by omega)) ?_
  simp (disch := omega) only [ra_m3, nI_add, nI_clamp, ra_inI, true_and, forall_eq, vM]
  refine br_f (nI_nle p hM) ⟨nI_ne0 p hM, nI_ne0 p hM, ?_⟩
  rw [pk_rem hr p hM, pk_div hr p hM]
  unfold wY_absorb_191
  refine ym_lifted hz k3 zK h hi ?_
  unfold wY_absorb_213
  by_cases g : rr % Mi < ra_lift z (i + (3 - K))
  · rw [if_pos g] at hp
    refine br_t (nI_lt g hl) ?_
    simp only [pk_mul, nI_add, forall_eq]
    exact hp
  · rw [if_neg g] at hp
    refine br_f (nI_nlt (by omega) (by omega)) ?_
    simp only [pk_mul, nI_add, forall_eq]
    exact hp
end
