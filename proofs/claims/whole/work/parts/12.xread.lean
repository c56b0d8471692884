/-! X: the methods that only read -/
section
variable {c : Nat} {fv oa ol ov : Int32} {rk dm am xs ys xf yf fs fr wr wd : Nat → Int32}
theorem xm_product {post : Int32 → Prop} {s f e : Nat} {d : Nat → Nat} (hs : s < 12) (hf : f ≤ 3) (he : e ≤ 3) (hd : ∀ i, f ≤ i → i < e → dm (s * 3 + i) = nI (d i))
    (hp : post (nI (ra_prod d f (e - f)))) : wpX_product post (nI c, fv, oa, ol, ov, rk, dm, am, xs, ys, xf, yf, fs, fr, wr, wd) (nI s) (nI f) (nI e) := by
  unfold wpX_product
  refine ra_loop (fun n i => wX_product_6 post (nI s) (nI e) (nI c) fv oa ol ov rk dm am xs ys xf yf fs fr wr wd n (nI (ra_prod d f i)) (nI (f + i))) (e - f) (fun n => ?_) (fun n i hi ih => ?_) 0 (Nat.zero_le _)
  · simp only [wX_product_6]
    exact br_t (nI_le (by omega) (by omega)) hp
  · simp (disch := omega) only [wX_product_6, ra_m3, nI_add, nI_clamp, ra_inI, true_and, forall_eq, nI_1]
    refine br_f (nI_ge (by omega) (by omega)) ?_
    rw [hd (f + i) (by omega) (by omega), pk_mul]
    exact ih
theorem xm_limitError {post : Int32 → Prop} {s r : Nat} {d : Nat → Nat} (hc : c ≤ 32) (hs : s < 12) (hr : r ≤ 3) (er : rk s = nI r) (hd : ∀ i, i < r → dm (s * 3 + i) = nI (d i))
    (hb : ∀ i, i < r → d i < 2 ^ 31) (hp : post (if ra_lim c d r = true then -4 else 0)) : wpX_limitError post (nI c, fv, oa, ol, ov, rk, dm, am, xs, ys, xf, yf, fs, fr, wr, wd) (nI s) := by
  unfold wpX_limitError
  have key : ∀ k i, i + k = r → (∀ j, j < i → d j ≤ c) → ∀ n, wX_limitError_4 post (nI s) (nI c) fv oa ol ov rk dm am xs ys xf yf fs fr wr wd (n + k + 1) (nI (ra_prod d 0 i)) (nI i) := by
    intro k
    induction k with
    | zero =>
      intro i hi h n
      have hi' : i = r := by omega
      subst hi'
      have hb2 : ra_prod d 0 i ≤ 32768 := Nat.le_trans (ra_prod_le (b := 32) _ (fun j hj => by rw [Nat.zero_add]; exact Nat.le_trans (h j hj) hc)) (ra_p32 hr)
      rw [ra_lim_le h] at hp
      simp (disch := omega) only [wX_limitError_4, nI_clamp, ra_inI, true_and, er]
      refine br_t (nI_le (Nat.le_refl _) (by omega)) ?_
      by_cases z : c < ra_prod d 0 i
      · rw [if_pos (decide_eq_true z)] at hp
        exact br_f (nI_ge z (by omega)) hp
      · rw [if_neg (fun y => z (of_decide_eq_true y))] at hp
        exact br_t (nI_le (by omega) (by omega)) hp
    | succ k ih =>
      intro i hi h n
      have hb1 := hb i (by omega)
      rw [wX_limitError_4]
      simp (disch := omega) only [ra_m3, nI_add, nI_clamp, ra_inI, true_and, er, hd i (by omega), forall_eq, nI_1]
      refine br_f (nI_ge (by omega) (by omega)) ?_
      by_cases z : c < d i
      · have e : ra_lim c d r = true := by
          unfold ra_lim
          rw [ra_any_t r i (by omega) (decide_eq_true z), Bool.true_or]
        rw [e, if_pos rfl] at hp
        exact br_f (nI_ge z (by omega)) hp
      · refine br_t (nI_le (by omega) (by omega)) ?_
        rw [pk_mul]
        have := ih (i + 1) (by omega) (fun j hj => by
          by_cases y : j = i
          · subst y; omega
          · exact h j (by omega)) n
        rw [ra_prod, Nat.zero_add] at this
        exact this
  exact ⟨_, key r 0 (Nat.zero_add r) (fun j hj => absurd hj (Nat.not_lt_zero j)) 0⟩
theorem xm_cellRank {post : Int32 → Prop} {a : Nat} {v : Int32} (ha : a ≤ 3) (hp : post (nI (ra_eff v a))) : wpX_cellRank post (nI c, fv, oa, ol, ov, rk, dm, am, xs, ys, xf, yf, fs, fr, wr, wd) (nI a) v := by
  unfold wpX_cellRank
  by_cases h : v < 0
  · refine br_t h ?_
    by_cases g : nI a + v ≤ 0
    · rw [ra_eff_z ha h (Int32.not_lt.mpr g)] at hp
      exact br_t g hp
    · rw [← ra_eff_p ha h (Int32.not_le.mp g)] at hp
      exact br_f g hp
  · refine br_f h ?_
    by_cases g : nI a ≤ v
    · rw [ra_eff_h h (Int32.not_lt.mpr g)] at hp
      exact br_t g hp
    · rw [← ra_eff_l h (Int32.not_le.mp g)] at hp
      exact br_f g hp
theorem xm_leftRank {post : Int32 → Prop} {v : Nat} (hv : v ≤ 12) (hp : post (nI (ra_dL v))) : wpX_leftRank post (nI c, fv, oa, ol, ov, rk, dm, am, xs, ys, xf, yf, fs, fr, wr, wd) (nI v) := by
  unfold wpX_leftRank
  unfold ra_dL at hp
  by_cases e : v = 10
  · rw [if_pos e] at hp
    subst e
    exact br_t rfl hp
  · rw [if_neg e] at hp
    exact br_f (fun z => e ((nI_eq (b := 10) (by omega) (by decide)).mp z)) hp
theorem xm_rightRank {post : Int32 → Prop} {v : Nat} (hv : v ≤ 12) (hp : post (nI (ra_dR v))) : wpX_rightRank post (nI c, fv, oa, ol, ov, rk, dm, am, xs, ys, xf, yf, fs, fr, wr, wd) (nI v) := by
  unfold wpX_rightRank wX_rightRank_21 wX_rightRank_25 wX_rightRank_26
  match v, hv with
  | 0, _ => exact br_t rfl (br_f (by decide) hp)
  | 1, _ => exact br_f (by decide) (br_t rfl (br_f (by decide) hp))
  | 2, _ => exact br_f (by decide) (br_f (by decide) (br_t (by decide) (br_t rfl hp)))
  | 3, _ => exact br_f (by decide) (br_f (by decide) (br_t (by decide) (br_t rfl hp)))
  | 4, _ => exact br_f (by decide) (br_f (by decide) (br_t (by decide) (br_t rfl hp)))
  | 5, _ => exact br_f (by decide) (br_f (by decide) (br_t (by decide) (br_t rfl hp)))
  | 6, _ => exact br_f (by decide) (br_f (by decide) (br_f (by decide) (br_f (by decide) (br_f (by decide) hp))))
  | 7, _ => exact br_f (by decide) (br_f (by decide) (br_f (by decide) (br_f (by decide) (br_f (by decide) hp))))
  | 8, _ => exact br_f (by decide) (br_f (by decide) (br_f (by decide) (br_f (by decide) (br_f (by decide) hp))))
  | 9, _ => exact br_f (by decide) (br_f (by decide) (br_f (by decide) (br_f (by decide) (br_f (by decide) hp))))
  | 10, _ => exact br_f (by decide) (br_f (by decide) (br_f (by decide) (br_t (by decide) (br_t rfl hp))))
  | 11, _ => exact br_f (by decide) (br_f (by decide) (br_f (by decide) (br_t (by decide) (br_t rfl hp))))
  | 12, _ => exact br_f (by decide) (br_f (by decide) (br_f (by decide) (br_t (by decide) (br_t rfl hp))))
theorem xm_liftedAxis {post : Int32 → Prop} {s i : Nat} {z : ra_A} (hs : s < 12) (hz : z.1 ≤ 3) (h : ra_H rk dm am s z) (hi : i < 3) (hp : post (nI (ra_lift z i))) : wpX_liftedAxis post (nI c, fv, oa, ol, ov, rk, dm, am, xs, ys, xf, yf, fs, fr, wr, wd) (nI s) (nI i) := by
  unfold wpX_liftedAxis
  dsimp only
  have e3 : (3 : Int32) - nI z.1 = nI (3 - z.1) := pk_sub (a := 3) hz
  refine ⟨vp_in_nI hs (by decide), ?_⟩
  rw [nI_clamp (by omega), h.1, e3]
  unfold ra_lift at hp
  by_cases g : i < 3 - z.1
  · rw [if_pos g] at hp
    exact nm_e (br_f (Int32.not_le.mpr (pk_sneg (by omega) g)) hp)
  · rw [if_neg g] at hp
    refine nm_r (pk_sub (by omega)) (br_t (nI_pos' (by omega)) ?_)
    rw [ra_m3, nI_add, nI_clamp (by omega), h.2.1 _ (by omega)]
    exact ⟨vp_in_nI (by omega) (by decide), hp⟩
theorem xm_cellNumber {post : Int32 → Prop} {L g q sl r : Nat} {F : Nat → Nat} (hL : L < 2) (hfs : fs L = nI sl) (hfr : fr L = nI r) (hsl : sl < 12) (h3 : r ≤ 3) (hg : g ≤ 3)
    (hF : ∀ i, i < r → dm (sl * 3 + i) = nI (F i)) (h0 : 0 < ra_prod F g (r - g)) (hb : ra_prod F g (r - g) < 2 ^ 31) (hq : q < 2 ^ 31)
    (hp : post (nI (q / ra_prod F g (r - g)))) : wpX_cellNumber post (nI c, fv, oa, ol, ov, rk, dm, am, xs, ys, xf, yf, fs, fr, wr, wd) (nI L) (nI g) (nI q) := by
  unfold wpX_cellNumber
  dsimp only
  rw [nI_clamp (by omega), hfs, hfr]
  refine ⟨vp_in_nI hL (by decide), vp_in_nI hL (by decide), ?_⟩
  refine xm_product hsl hg h3 (fun i _ hi => hF i hi) ?_
  refine br_f (nI_nle h0 hb) ⟨nI_ne0 h0 hb, ?_⟩
  rw [pk_div hq h0 hb]
  exact hp
theorem xm_isRegister {post : Int32 → Prop} {p : Int32} (h0 : p < 0 ∨ 4 ≤ p → post 0) (h1 : ∀ s : Nat, s < 4 → p = nI s → post 1) : wpX_isRegister post (nI c, fv, oa, ol, ov, rk, dm, am, xs, ys, xf, yf, fs, fr, wr, wd) p := by
  unfold wpX_isRegister
  by_cases a : p < 0
  · exact br_t a (h0 (.inl a))
  · refine br_f a ?_
    by_cases b : 4 ≤ p
    · exact br_t b (h0 (.inr b))
    · obtain ⟨s, hs, rfl⟩ := nI_of a
      exact br_f b (h1 s (by rw [ra_le4 hs] at b; omega) rfl)
end
