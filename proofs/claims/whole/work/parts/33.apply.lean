/-! the owed statements: declaredRank, monad, dyad -/
theorem iv_verb (p : Int32) : (∃ v : Nat, v ≤ 5 ∧ p = nI v) ∨ (∃ v : Nat, 6 ≤ v ∧ v ≤ 12 ∧ p = nI v) ∨ (p < 0 ∨ 12 < p) := by
  by_cases n : p < 0
  · exact .inr (.inr (.inl n))
  · obtain ⟨v, hv, rfl⟩ := nI_of n
    by_cases a : v ≤ 5
    · exact .inl ⟨v, a, rfl⟩
    · by_cases b : v ≤ 12
      · exact .inr (.inl ⟨v, by omega, b, rfl⟩)
      · exact .inr (.inr (.inr (nI_lt (a := 12) (by omega) hv)))
section
variable {c : Nat} {fv oa ol ov : Int32} {rk dm am xs ys xf yf fs fr wr wd : Nat → Int32}
theorem xm_mon1 {post : Int32 → Prop} {v : Nat} (h : v ≤ 5) (hp : post 1) : wpX_isMonad post (nI c, fv, oa, ol, ov, rk, dm, am, xs, ys, xf, yf, fs, fr, wr, wd) (nI v) := by
  unfold wpX_isMonad
  exact br_f (nI_pos (by omega)) (br_f (nI_nlt (a := 5) h (by decide)) hp)
theorem xm_mon0 {post : Int32 → Prop} {p : Int32} (h : p < 0 ∨ 5 < p) (hp : post 0) : wpX_isMonad post (nI c, fv, oa, ol, ov, rk, dm, am, xs, ys, xf, yf, fs, fr, wr, wd) p := by
  unfold wpX_isMonad
  by_cases n : p < 0
  · exact br_t n hp
  · exact br_f n (br_t (h.resolve_left n) hp)
theorem xm_dy1 {post : Int32 → Prop} {v : Nat} (h : 6 ≤ v) (h2 : v ≤ 12) (hp : post 1) : wpX_isDyad post (nI c, fv, oa, ol, ov, rk, dm, am, xs, ys, xf, yf, fs, fr, wr, wd) (nI v) := by
  unfold wpX_isDyad
  exact br_f (nI_nlt (b := 6) h (by omega)) (br_f (nI_nlt (a := 12) h2 (by decide)) hp)
theorem xm_dy0 {post : Int32 → Prop} {p : Int32} (h : p < 6 ∨ 12 < p) (hp : post 0) : wpX_isDyad post (nI c, fv, oa, ol, ov, rk, dm, am, xs, ys, xf, yf, fs, fr, wr, wd) p := by
  unfold wpX_isDyad
  by_cases n : p < 6
  · exact br_t n hp
  · exact br_f n (br_t (h.resolve_left n) hp)
end
theorem i_vc_declaredRank {k : Nat} {u : SX} {v : SY} (I : i_Rel k u v) (hk : k + 5 ≤ 2561) (v1 : Int32) (v2 : Int32) : wpX_declaredRank (fun r => wpY_declaredRank (fun r' => r' = r ∧ i_Rel (k + 5) u v) v v1 v2) u v1 v2 := by
  obtain ⟨c, fv, oa, ol, ov, rk, dm, am, xs, ys, xf, yf, fs, fr, wr, wd, rk', dm', am', lx', ly', lm', lfx', lfy', lfr', lp', lk', lc', lf', lM', -, h8, hc, rfl, rfl, hR⟩ := I

  unfold wpX_declaredRank wpY_declaredRank wX_declaredRank_18 wX_declaredRank_37 wY_declaredRank_20 wY_declaredRank_42 wY_declaredRank_54
  rcases iv_verb v1 with ⟨v, hv, rfl⟩ | ⟨v, h6, hv, rfl⟩ | h
  · have l6 : nI v < 6 := nI_lt (b := 6) (by omega) (by decide)
    by_cases e : v2 = 0
    · refine xm_mon1 hv (br_f (by decide) (br_t e ?_))
      refine xm_rightRank (by omega) ?_
      refine br_f (nI_pos (by omega)) (br_f (nI_nlt (a := 5) hv (by decide)) (br_t e ?_))
      exact ym_drR (by omega) ⟨rfl, iv_mk h8 hc hR⟩
    · refine xm_mon1 hv (br_f (by decide) (br_f e ?_))
      refine xm_dy0 (.inl l6) (br_t rfl (xm_dy0 (.inl l6) (br_t rfl ?_)))
      exact br_f (nI_pos (by omega)) (br_f (nI_nlt (a := 5) hv (by decide)) (br_f e (br_t l6 ⟨rfl, iv_mk h8 hc hR⟩)))
  · have g5 : 5 < nI v := nI_lt (a := 5) (by omega) (by omega)
    have n6 : ¬ nI v < 6 := nI_nlt (b := 6) h6 (by omega)
    have n12 : ¬ 12 < nI v := nI_nlt (a := 12) hv (by decide)
    refine xm_mon0 (.inr g5) (br_t rfl (xm_dy1 h6 hv (br_f (by decide) ?_)))
    by_cases e1 : v2 = 1
    · refine br_t e1 (xm_leftRank hv ?_)
      refine br_f (nI_pos (by omega)) (br_t g5 (br_f n6 (br_f n12 (br_t e1 (br_f (by rw [e1]; decide) ?_)))))
      refine ym_drL hv ?_
      intro z ez
      exact ⟨ez h6, iv_mk h8 hc hR⟩
    · refine br_f e1 (xm_dy1 h6 hv (br_f (by decide) ?_))
      by_cases e2 : v2 = 2
      · refine br_t e2 (xm_rightRank hv ?_)
        refine br_f (nI_pos (by omega)) (br_t g5 (br_f n6 (br_f n12 (br_f e1 (br_t e2 (br_t e2 ?_))))))
        exact ym_drR hv ⟨rfl, iv_mk h8 hc hR⟩
      · refine br_f e2 ?_
        exact br_f (nI_pos (by omega)) (br_t g5 (br_f n6 (br_f n12 (br_f e1 (br_f e2 ⟨rfl, iv_mk h8 hc hR⟩)))))
  · have a5 : v1 < 0 ∨ 5 < v1 := h.imp id (fun z => Int32.lt_trans (by decide) z)
    have a6 : v1 < 6 ∨ 12 < v1 := h.imp (fun z => Int32.lt_trans z (by decide)) id
    refine xm_mon0 a5 (br_t rfl (xm_dy0 a6 (br_t rfl (xm_dy0 a6 (br_t rfl ?_)))))
    rcases h with n | n
    · exact br_t n (br_t (Int32.lt_trans n (by decide)) ⟨rfl, iv_mk h8 hc hR⟩)
    · have n0 : ¬ v1 < 0 := fun z => absurd (Int32.lt_trans n z) (by decide)
      have n5 : 5 < v1 := Int32.lt_trans (by decide) n
      have n6 : ¬ v1 < 6 := fun z => absurd (Int32.lt_trans n z) (by decide)
      exact br_f n0 (br_t n5 (br_f n6 (br_t n ⟨rfl, iv_mk h8 hc hR⟩)))
