/-! what a level's arrays say (the reference) -/
def yv_V (lx ly lm lfx lfy lfr lp lf : Nat → Int32) (L sx sy mon fx fy : Nat) (F : Nat → Nat) (P : Nat) : Prop :=
  lx L = nI sx ∧ ly L = nI sy ∧ lm L = nI mon ∧ lfx L = nI fx ∧ lfy L = nI fy ∧ lfr L = nI (ra_fr fx fy) ∧ lp L = nI P ∧ ∀ i, i < ra_fr fx fy → lf (L * 3 + i) = nI (F i)
/-- all that level L holds is as it was -/
def yv_E (L : Nat) (lx ly lm lfx lfy lfr lp lk lc lf lM lx' ly' lm' lfx' lfy' lfr' lp' lk' lc' lf' lM' : Nat → Int32) : Prop :=
  lx' L = lx L ∧ ly' L = ly L ∧ lm' L = lm L ∧ lfx' L = lfx L ∧ lfy' L = lfy L ∧ lfr' L = lfr L ∧ lp' L = lp L ∧ lk' L = lk L ∧ lc' L = lc L ∧ (∀ i, i < 3 → lf' (L * 3 + i) = lf (L * 3 + i)) ∧ (∀ i, i < 3 → lM' (L * 3 + i) = lM (L * 3 + i))
theorem yv_E_r {L : Nat} {lx ly lm lfx lfy lfr lp lk lc lf lM : Nat → Int32} : yv_E L lx ly lm lfx lfy lfr lp lk lc lf lM lx ly lm lfx lfy lfr lp lk lc lf lM :=
  ⟨rfl, rfl, rfl, rfl, rfl, rfl, rfl, rfl, rfl, fun _ _ => rfl, fun _ _ => rfl⟩
theorem yv_E_t {L : Nat} {lx ly lm lfx lfy lfr lp lk lc lf lM lx' ly' lm' lfx' lfy' lfr' lp' lk' lc' lf' lM' lx2 ly2 lm2 lfx2 lfy2 lfr2 lp2 lk2 lc2 lf2 lM2 : Nat → Int32} (h : yv_E L lx ly lm lfx lfy lfr lp lk lc lf lM lx' ly' lm' lfx' lfy' lfr' lp' lk' lc' lf' lM') (g : yv_E L lx' ly' lm' lfx' lfy' lfr' lp' lk' lc' lf' lM' lx2 ly2 lm2 lfx2 lfy2 lfr2 lp2 lk2 lc2 lf2 lM2) : yv_E L lx ly lm lfx lfy lfr lp lk lc lf lM lx2 ly2 lm2 lfx2 lfy2 lfr2 lp2 lk2 lc2 lf2 lM2 := by
  obtain ⟨a1, a2, a3, a4, a5, a6, a7, a8, a9, a10, a11⟩ := h
  obtain ⟨b1, b2, b3, b4, b5, b6, b7, b8, b9, b10, b11⟩ := g
  exact ⟨b1.trans a1, b2.trans a2, b3.trans a3, b4.trans a4, b5.trans a5, b6.trans a6, b7.trans a7, b8.trans a8, b9.trans a9, fun i hi => (b10 i hi).trans (a10 i hi), fun i hi => (b11 i hi).trans (a11 i hi)⟩
theorem yv_V_E {L sx sy mon fx fy P : Nat} {F : Nat → Nat} {lx ly lm lfx lfy lfr lp lk lc lf lM lx' ly' lm' lfx' lfy' lfr' lp' lk' lc' lf' lM' : Nat → Int32} (h3 : ra_fr fx fy ≤ 3) (h : yv_E L lx ly lm lfx lfy lfr lp lk lc lf lM lx' ly' lm' lfx' lfy' lfr' lp' lk' lc' lf' lM') (g : yv_V lx ly lm lfx lfy lfr lp lf L sx sy mon fx fy F P) : yv_V lx' ly' lm' lfx' lfy' lfr' lp' lf' L sx sy mon fx fy F P := by
  obtain ⟨a1, a2, a3, a4, a5, a6, a7, a8, a9, a10, a11⟩ := h
  obtain ⟨b1, b2, b3, b4, b5, b6, b7, b8⟩ := g
  exact ⟨a1.trans b1, a2.trans b2, a3.trans b3, a4.trans b4, a5.trans b5, a6.trans b6, a7.trans b7, fun i hi => (a10 i (by omega)).trans (b8 i hi)⟩
/-- an axis of a shape lifted to K axes -/
theorem ra_lift_K {z : ra_A} {K i : Nat} (hz : z.1 ≤ K) (hK : K ≤ 3) (hi : i < K) : ra_lift z (i + (3 - K)) = if i < K - z.1 then 1 else z.2.1 (i - (K - z.1)) := by
  unfold ra_lift
  by_cases e : i < K - z.1
  · rw [if_pos e, if_pos (by omega)]
  · rw [if_neg e, if_neg (by omega), show i + (3 - K) - (3 - z.1) = i - (K - z.1) by omega]
theorem ra_fc_fit {x : ra_A} {d : Nat} (ha : x.1 ≤ 3) (hd : d ≤ 3) : x.1 - (x.1 - ra_eff (nI d) x.1) ≤ d := by
  rw [ra_eff_n (by omega) (by omega)]
  split <;> omega
