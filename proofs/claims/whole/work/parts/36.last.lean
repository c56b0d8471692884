/-! the owed statement: make, by its four shapes -/
theorem i_vc_make {k : Nat} {u : SX} {v : SY} (I : i_Rel k u v) (hk : k + 5 ≤ 2561) (v1 : Int32) (v2 : Int32) (v3 : Int32) (v4 : Int32) : wpX_make (fun r u' => wpY_make (fun r' v' => r' = r ∧ i_Rel (k + 5) u' v') v v1 v2 v3 v4) u v1 v2 v3 v4 := by
  obtain ⟨c, fv, oa, ol, ov, rk, dm, am, xs, ys, xf, yf, fs, fr, wr, wd, rk', dm', am', lx', ly', lm', lfx', lfy', lfr', lp', lk', lc', lf', lM', -, h8, hc, rfl, rfl, hR⟩ := I

  rcases iv_reg v1 with h | ⟨s, hs, rfl⟩
  · unfold wpX_make wpY_make
    exact xm_reg0 h (br_t rfl (ym_ok0 h (br_t rfl ⟨rfl, iv_mk h8 hc hR⟩)))
  by_cases b1 : v2 < 0 ∧ ¬ v3 < 0
  · exact xm_makeB hs (.inl b1) (ym_makeB hs (.inl b1) ⟨rfl, iv_mk h8 hc hR⟩)
  by_cases b2 : v3 < 0 ∧ ¬ v4 < 0
  · exact xm_makeB hs (.inr b2) (ym_makeB hs (.inr b2) ⟨rfl, iv_mk h8 hc hR⟩)
  have v01 : v2 < 0 → v3 < 0 := fun z => Classical.byContradiction fun y => b1 ⟨z, y⟩
  have v12 : v3 < 0 → v4 < 0 := fun z => Classical.byContradiction fun y => b2 ⟨z, y⟩
  by_cases c0 : nI c < v2
  · refine xm_make31 hs v01 v12 ?_
    unfold wX_make_31
    refine br_t c0 (ym_make39 hs v01 v12 ?_)
    unfold wY_make_39
    exact br_t c0 ⟨rfl, iv_mk h8 hc hR⟩
  by_cases c1 : nI c < v3
  · refine xm_make31 hs v01 v12 ?_
    unfold wX_make_31
    refine br_f c0 (br_t c1 (ym_make39 hs v01 v12 ?_))
    unfold wY_make_39
    exact br_f c0 (br_t c1 ⟨rfl, iv_mk h8 hc hR⟩)
  by_cases c2 : nI c < v4
  · refine xm_make31 hs v01 v12 ?_
    unfold wX_make_31
    refine br_f c0 (br_f c1 (br_f (Int32.not_le.mpr c2) (ym_make39 hs v01 v12 ?_)))
    unfold wY_make_39
    exact br_f c0 (br_f c1 (br_f (Int32.not_le.mpr c2) ⟨rfl, iv_mk h8 hc hR⟩))
  have l2 : v4 ≤ nI c := Int32.not_lt.mp c2
  by_cases n0 : v2 < 0
  · have n1 := v01 n0
    have n2 := v12 n1
    have m0 : ¬ 0 ≤ v2 := Int32.not_le.mpr n0
    have m1 : ¬ 0 ≤ v3 := Int32.not_le.mpr n1
    have m2 : ¬ 0 ≤ v4 := Int32.not_le.mpr n2
    refine iv_make (r := 0) (tot := 1) (dd := fun _ => 0) h8 hc hR hs (by decide) (fun i hi => absurd hi (Nat.not_lt_zero i)) rfl (fun z => absurd z (by decide)) (fun z => absurd z (by decide)) (fun z => absurd z (by decide)) (by decide) ?_ ?_
    · intro post h4 h5
      refine xm_make31 hs v01 v12 ?_
      unfold wX_make_31 wX_make_68 wX_make_77 wX_make_89
      refine br_f c0 (br_f c1 (br_t l2 (br_f m0 (br_f m1 (br_f m2 (nm_r (e' := nI 1) (by decide) ?_))))))
      exact br_t (nI_le (by omega) (by omega)) (br_f m0 (h5 (by omega)))
    · intro post h5
      refine ym_make39 hs v01 v12 ?_
      unfold wY_make_39 wY_make_83 wY_make_96
      exact br_f c0 (br_f c1 (br_t l2 (br_t n0 (br_t n1 (br_t n2 h5)))))
  obtain ⟨a, ha, rfl⟩ := nI_of n0
  have la : a ≤ c := by rw [nI_ltI (by omega) ha] at c0; omega
  have m0 : 0 ≤ nI a := nI_pos' ha
  by_cases n1 : v3 < 0
  · have n2 := v12 n1
    have m1 : ¬ 0 ≤ v3 := Int32.not_le.mpr n1
    have m2 : ¬ 0 ≤ v4 := Int32.not_le.mpr n2
    refine iv_make (r := 1) (tot := a) (dd := fun _ => a) h8 hc hR hs (by decide) (fun i hi => la) (by show 1 * a = a; omega) (fun _ => rfl) (fun z => absurd z (by decide)) (fun z => absurd z (by decide)) ha ?_ ?_
    · intro post h4 h5
      refine xm_make31 hs v01 v12 ?_
      unfold wX_make_31 wX_make_68 wX_make_77 wX_make_89
      refine br_f c0 (br_f c1 (br_t l2 (br_t m0 (br_f m1 (br_f m2 (nm_r (e' := nI a) (by rw [Int32.mul_one, Int32.mul_one]) ?_))))))
      exact br_t (nI_le la (by omega)) (br_t m0 (br_f m1 (h5 la)))
    · intro post h5
      refine ym_make39 hs v01 v12 ?_
      unfold wY_make_39 wY_make_83 wY_make_96
      exact br_f c0 (br_f c1 (br_t l2 (br_f n0 (br_t n1 (br_t n2 h5)))))
  obtain ⟨b, hb, rfl⟩ := nI_of n1
  have lb : b ≤ c := by rw [nI_ltI (by omega) hb] at c1; omega
  have m1 : 0 ≤ nI b := nI_pos' hb
  have ab : a * b ≤ 32 * 32 := Nat.mul_le_mul (by omega) (by omega)
  by_cases n2 : v4 < 0
  · have m2 : ¬ 0 ≤ v4 := Int32.not_le.mpr n2
    refine iv_make (r := 2) (tot := a * b) (dd := fun i => if i = 0 then a else b) h8 hc hR hs (by decide) (fun i hi => by show (if i = 0 then a else b) ≤ c; split <;> assumption) (by show 1 * a * b = a * b; rw [Nat.one_mul]) (fun _ => rfl) (fun _ => rfl) (fun z => absurd z (by decide)) (by omega) ?_ ?_
    · intro post h4 h5
      refine xm_make31 hs v01 v12 ?_
      unfold wX_make_31 wX_make_68 wX_make_77 wX_make_89
      refine br_f c0 (br_f c1 (br_t l2 (br_t m0 (br_t m1 (br_f m2 (nm_r (e' := nI (a * b)) (by rw [Int32.mul_one, pk_mul]) ?_))))))
      by_cases g : a * b ≤ c
      · exact br_t (nI_le g (by omega)) (br_t m0 (br_t m1 (br_f m2 (h5 g))))
      · exact br_f (nI_ge (by omega) (by omega)) (h4 g)
    · intro post h5
      refine ym_make39 hs v01 v12 ?_
      unfold wY_make_39 wY_make_83 wY_make_96
      exact br_f c0 (br_f c1 (br_t l2 (br_f n0 (br_f n1 (nm_r (pk_mul a b) (br_t n2 h5))))))
  obtain ⟨d, hd, rfl⟩ := nI_of n2
  have ld : d ≤ c := by rw [nI_ltI (by omega) hd] at c2; omega
  have m2 : 0 ≤ nI d := nI_pos' hd
  have abd : a * b * d ≤ 32 * 32 * 32 := Nat.mul_le_mul ab (by omega)
  refine iv_make (r := 3) (tot := a * b * d) (dd := fun i => if i = 0 then a else if i = 1 then b else d) h8 hc hR hs (by decide) (fun i hi => by show (if i = 0 then a else if i = 1 then b else d) ≤ c; split <;> (try split) <;> assumption) (by show 1 * a * b * d = a * b * d; rw [Nat.one_mul]) (fun _ => rfl) (fun _ => rfl) (fun _ => rfl) (by omega) ?_ ?_
  · intro post h4 h5
    refine xm_make31 hs v01 v12 ?_
    unfold wX_make_31 wX_make_68 wX_make_77 wX_make_89
    refine br_f c0 (br_f c1 (br_t l2 (br_t m0 (br_t m1 (br_t m2 (nm_r (e' := nI (a * b * d)) (by rw [pk_mul, pk_mul]) ?_))))))
    by_cases g : a * b * d ≤ c
    · exact br_t (nI_le g (by omega)) (br_t m0 (br_t m1 (br_t m2 (h5 g))))
    · exact br_f (nI_ge (by omega) (by omega)) (h4 g)
  · intro post h5
    refine ym_make39 hs v01 v12 ?_
    unfold wY_make_39 wY_make_83 wY_make_96
    exact br_f c0 (br_f c1 (br_t l2 (br_f n0 (br_f n1 (nm_r (pk_mul a b) (br_f n2 (nm_r (pk_mul (a * b) d) h5)))))))
