/-! the relation -/
def iv_R (c : Nat) (rk dm am rk' dm' am' : Nat → Int32) : Prop :=
  (∀ s, s < 4 → ∃ a, ra_W c a ∧ ra_H rk dm am s a ∧ ra_H rk' dm' am' s a) ∧ ra_H rk dm am 11 (ra_sc 0)
/-- both sides' registers hold the same arrays within the limits; cap, fill and the rank setting are the same -/
def i_Rel (k : Nat) (u : SX) (v : SY) : Prop :=
  ∃ (c : Nat) (fv oa ol ov : Int32) (rk dm am xs ys xf yf fs fr wr wd rk' dm' am' lx' ly' lm' lfx' lfy' lfr' lp' lk' lc' lf' lM' : Nat → Int32), k = k ∧ 8 ≤ c ∧ c ≤ 32 ∧ u = (nI c, fv, oa, ol, ov, rk, dm, am, xs, ys, xf, yf, fs, fr, wr, wd) ∧ v = (nI c, fv, oa, ol, ov, rk', dm', am', lx', ly', lm', lfx', lfy', lfr', lp', lk', lc', lf', lM') ∧ iv_R c rk dm am rk' dm' am'
theorem iv_mk {k c : Nat} {fv oa ol ov : Int32} {rk dm am xs ys xf yf fs fr wr wd rk' dm' am' lx' ly' lm' lfx' lfy' lfr' lp' lk' lc' lf' lM' : Nat → Int32} (h8 : 8 ≤ c) (hc : c ≤ 32) (h : iv_R c rk dm am rk' dm' am') : i_Rel k (nI c, fv, oa, ol, ov, rk, dm, am, xs, ys, xf, yf, fs, fr, wr, wd) (nI c, fv, oa, ol, ov, rk', dm', am', lx', ly', lm', lfx', lfy', lfr', lp', lk', lc', lf', lM') :=
  ⟨c, fv, oa, ol, ov, rk, dm, am, xs, ys, xf, yf, fs, fr, wr, wd, rk', dm', am', lx', ly', lm', lfx', lfy', lfr', lp', lk', lc', lf', lM', rfl, h8, hc, rfl, rfl, h⟩
/-- one register written anew, on both sides -/
theorem iv_put {c d : Nat} {rk dm am rk' dm' am' rk2 dm2 am2 rk3 dm3 am3 : Nat → Int32} {a : ra_A} (hc : c ≤ 32) (h1 : 1 ≤ c) (h : iv_R c rk dm am rk' dm' am') (hd : d < 4) (w : ra_W c a) (hx : ra_H rk2 dm2 am2 d a) (hy : ra_H rk3 dm3 am3 d a)
    (sx : ∀ j, j < 4 ∨ j = 11 → j ≠ d → ra_S rk dm am rk2 dm2 am2 j) (sy : ∀ j, j < 4 → j ≠ d → ra_S rk' dm' am' rk3 dm3 am3 j) : iv_R c rk2 dm2 am2 rk3 dm3 am3 := by
  refine ⟨fun s hs => ?_, ra_H_S h.2 (ra_sc_W h1 0) hc (sx 11 (.inr rfl) (by omega))⟩
  by_cases e : s = d
  · subst e; exact ⟨a, w, hx, hy⟩
  · obtain ⟨b, wb, bx, bY⟩ := h.1 s hs
    exact ⟨b, wb, ra_H_S bx wb hc (sx s (.inl hs) e), ra_H_S bY wb hc (sy s hs e)⟩
theorem iv_keep {c : Nat} {rk dm am rk' dm' am' rk2 dm2 am2 rk3 dm3 am3 : Nat → Int32} (hc : c ≤ 32) (h1 : 1 ≤ c) (h : iv_R c rk dm am rk' dm' am')
    (sx : ∀ j, j < 4 ∨ j = 11 → ra_S rk dm am rk2 dm2 am2 j) (sy : ∀ j, j < 4 → ra_S rk' dm' am' rk3 dm3 am3 j) : iv_R c rk2 dm2 am2 rk3 dm3 am3 := by
  refine ⟨fun s hs => ?_, ra_H_S h.2 (ra_sc_W h1 0) hc (sx 11 (.inr rfl))⟩
  obtain ⟨b, wb, bx, bY⟩ := h.1 s hs
  exact ⟨b, wb, ra_H_S bx wb hc (sx s (.inl hs)), ra_H_S bY wb hc (sy s hs)⟩
theorem iv_reg (p : Int32) : (p < 0 ∨ 4 ≤ p) ∨ ∃ s : Nat, s < 4 ∧ p = nI s := by
  by_cases a : p < 0
  · exact .inl (.inl a)
  · obtain ⟨s, hs, rfl⟩ := nI_of a
    by_cases b : (4 : Int32) ≤ nI s
    · exact .inl (.inr b)
    · exact .inr ⟨s, by rw [ra_le4 hs] at b; omega, rfl⟩
theorem i_up {k : Nat} {u : SX} {v : SY} (h : i_Rel k u v) : i_Rel (k + 5) u v := by
  obtain ⟨c, fv, oa, ol, ov, rk, dm, am, xs, ys, xf, yf, fs, fr, wr, wd, rk', dm', am', lx', ly', lm', lfx', lfy', lfr', lp', lk', lc', lf', lM', -, h8, hc, rfl, rfl, hR⟩ := h
  exact iv_mk h8 hc hR
theorem iv_R0 {c : Nat} (h1 : 1 ≤ c) : iv_R c (fun _ => 0) (fun _ => 0) (fun _ => 0) (fun _ => 0) (fun _ => 0) (fun _ => 0) :=
  ⟨fun s _ => ⟨ra_sc 0, ra_sc_W h1 0, ⟨rfl, fun i hi => absurd hi (Nat.not_lt_zero i), fun _ _ => rfl⟩, ⟨rfl, fun i hi => absurd hi (Nat.not_lt_zero i), fun _ _ => rfl⟩⟩,
    ⟨rfl, fun i hi => absurd hi (Nat.not_lt_zero i), fun _ _ => rfl⟩⟩
theorem i_vc0 (k0 : Int32) : wpX_init (fun u => wpY_init (fun v => i_Rel 1 u v) k0) k0 := by
  unfold wpX_init wpY_init
  by_cases a : 8 ≤ k0
  · refine br_t a ?_
    by_cases b : k0 ≤ 32
    · obtain ⟨n, hn, rfl⟩ := nI_of (x := k0) (Int32.not_lt.mpr (Int32.le_trans (by decide) a))
      have a' : 8 ≤ n := (nI_leI (a := 8) (by decide) hn).mp a
      have b' : n ≤ 32 := (nI_leI (b := 32) hn (by decide)).mp b
      exact br_t b (br_t a (br_t b (iv_mk a' b' (iv_R0 (by omega)))))
    · exact br_f b (br_t a (br_f b (iv_mk (c := 32) (by decide) (by decide) (iv_R0 (by decide)))))
  · exact br_f a (br_f a (iv_mk (c := 8) (by decide) (by decide) (iv_R0 (by decide))))
