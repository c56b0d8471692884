/-! DRAFT, never compiled. Where the ranks fit B is P; the reference's placing. -/
theorem ra_eff_n {d a : Nat} (hd : d < 2 ^ 31) (ha : a < 2 ^ 31) : ra_eff (nI d) a = if d < a then d else a := by
  unfold ra_eff
  rw [if_neg (nI_pos hd), nI_clamp hd]
  by_cases e : d < a
  · rw [if_pos e, if_pos ((nI_ltI hd ha).mpr e)]
  · rw [if_neg e, if_neg (fun z => e ((nI_ltI hd ha).mp z))]
theorem ra_eff_le (v : Int32) (a : Nat) (ha : a < 2 ^ 31) : ra_eff v a ≤ a := by
  unfold ra_eff
  split
  · rename_i h
    rw [Int32.lt_iff_toInt_lt] at h
    have : (0 : Int32).toInt = 0 := rfl
    omega
  · split
    · rename_i h0 h
      exact Nat.le_of_lt (by
        rw [Int32.lt_iff_toInt_lt, nI_toInt ha] at h
        rw [Int32.lt_iff_toInt_lt] at h0
        have : (0 : Int32).toInt = 0 := rfl
        show v.toInt.toNat < a
        omega)
    · exact Nat.le_refl _
theorem ra_dL_1 (v : Nat) : ra_dL v ≤ 1 := by unfold ra_dL; split <;> decide
theorem ra_dR_3 (v : Nat) : ra_dR v ≤ 3 := by unfold ra_dR; split <;> decide
theorem ra_B_fit {c v : Nat} {fl : Int32} {x y : ra_A} (h8 : 8 ≤ c) (hc : c ≤ 32) (hv : v ≤ 12) (wy : ra_W c y) (hx : x.1 ≤ ra_dL v) (hy : y.1 ≤ ra_dR v) :
    ra_BE c fl v x y = ra_PE c v x y ∧ (ra_PE c v x y = 0 → ra_q (ra_PA fl v x y) (ra_BA c fl v x y)) := by
  have a := ra_dL_1 v
  have b := ra_dR_3 v
  have ex : x.1 - ra_eff (nI (ra_dL v)) x.1 = 0 := by
    rw [ra_eff_n (by omega) (by omega), if_neg (by omega)]; omega
  have ey : y.1 - ra_eff (nI (ra_dR v)) y.1 = 0 := by
    rw [ra_eff_n (by omega) (by omega), if_neg (by omega)]; omega
  unfold ra_BE ra_BA
  rw [ex, ey]
  exact ra_A_1 (fun h => ra_P_W h8 hc hv wy h)
/-- a cell of A at declared ranks fits them -/
theorem ra_cell_fit {p d : Nat} {x : ra_A} (ha : x.1 ≤ 3) (hd : d ≤ 3) : (ra_cell x (x.1 - ra_eff (nI d) x.1) p).1 ≤ d := by
  show x.1 - (x.1 - ra_eff (nI d) x.1) ≤ d
  rw [ra_eff_n (by omega) (by omega)]
  split <;> omega
/-! the reference takes u apart by remainders: k axes -/
theorem ra_pl_0 {fl : Int32} {z : ra_A} (hz : z.1 = 0) : ra_pl fl 1 1 z 0 = z.2.2 0 := by
  unfold ra_pl ra_lift; rw [hz]; simp
theorem ra_pl_1 {fl : Int32} {z : ra_A} {w2 u : Nat} (hz : z.1 ≤ 1) (hu : u < w2) :
    ra_pl fl 1 w2 z u = if u % w2 < ra_lift z 2 then z.2.2 (u % w2) else fl := by
  have l0 : ra_lift z 0 = 1 := by unfold ra_lift; rw [if_pos (by omega)]
  have l1 : ra_lift z 1 = 1 := by unfold ra_lift; rw [if_pos (by omega)]
  unfold ra_pl
  rw [Nat.one_mul, Nat.div_eq_of_lt hu, l0, l1, Nat.zero_mod]
  by_cases e : u % w2 < ra_lift z 2
  · rw [if_pos e, if_pos ⟨by decide, by decide, e⟩]; simp
  · rw [if_neg e, if_neg (fun h => e h.2.2)]
theorem ra_pl_2 {fl : Int32} {z : ra_A} {w1 w2 u : Nat} (hz : z.1 ≤ 2) (hu : u < w1 * w2) :
    ra_pl fl w1 w2 z u = if u % w2 < ra_lift z 2 ∧ u / w2 % w1 < ra_lift z 1 then z.2.2 (u % w2 + u / w2 % w1 * ra_lift z 2) else fl := by
  have l0 : ra_lift z 0 = 1 := by unfold ra_lift; rw [if_pos (by omega)]
  unfold ra_pl
  rw [Nat.div_eq_of_lt hu, l0]
  by_cases e : u % w2 < ra_lift z 2 ∧ u / w2 % w1 < ra_lift z 1
  · rw [if_pos e, if_pos ⟨by decide, e.2, e.1⟩, Nat.zero_mul, Nat.zero_add, Nat.add_comm]
  · rw [if_neg e, if_neg (fun h => e ⟨h.2.2, h.2.1⟩)]
theorem ra_ix3 (a b k l1 l2 : Nat) : (a * l1 + b) * l2 + k = k + b * l2 + a * (l2 * l1) := by
  rw [Nat.add_mul, Nat.mul_assoc, Nat.mul_comm l1 l2]; omega
theorem ra_pl_3 {fl : Int32} {z : ra_A} {w0 w1 w2 u : Nat} (hu : u < w0 * w1 * w2) :
    ra_pl fl w1 w2 z u = if u % w2 < ra_lift z 2 ∧ u / w2 % w1 < ra_lift z 1 ∧ u / w2 / w1 % w0 < ra_lift z 0
      then z.2.2 (u % w2 + u / w2 % w1 * ra_lift z 2 + u / w2 / w1 % w0 * (ra_lift z 2 * ra_lift z 1)) else fl := by
  obtain ⟨a, b, d, e⟩ := ra_split3 hu
  have q : u / (w1 * w2) = u / w2 / w1 := by rw [Nat.div_div_eq_div_mul, Nat.mul_comm]
  unfold ra_pl
  rw [q] at a ⊢
  rw [Nat.mod_eq_of_lt a]
  by_cases h : u % w2 < ra_lift z 2 ∧ u / w2 % w1 < ra_lift z 1 ∧ u / w2 / w1 < ra_lift z 0
  · rw [if_pos h, if_pos ⟨h.2.2, h.2.1, h.1⟩]
    rw [ra_ix3]
  · rw [if_neg h, if_neg (fun g => h ⟨g.2.2, g.2.1, g.1⟩)]
/-- X's placing: the number made of i, j, k is taken apart again -/
theorem ra_join {w1 w2 i j k : Nat} (hj : j < w1) (hk : k < w2) :
    ((i * w1 + j) * w2 + k) / (w1 * w2) = i ∧ ((i * w1 + j) * w2 + k) / w2 % w1 = j ∧ ((i * w1 + j) * w2 + k) % w2 = k := by
  have p2 : 0 < w2 := by omega
  have p1 : 0 < w1 := by omega
  have d2 : ((i * w1 + j) * w2 + k) / w2 = i * w1 + j := by
    rw [Nat.mul_comm, Nat.mul_add_div p2, Nat.div_eq_of_lt hk, Nat.add_zero]
  have d1 : (i * w1 + j) / w1 = i := by
    rw [Nat.mul_comm, Nat.mul_add_div p1, Nat.div_eq_of_lt hj, Nat.add_zero]
  refine ⟨?_, ?_, ?_⟩
  · rw [Nat.mul_comm w1 w2, ← Nat.div_div_eq_div_mul, d2, d1]
  · rw [d2, Nat.mul_comm, Nat.mul_add_mod, Nat.mod_eq_of_lt hj]
  · rw [Nat.mul_comm, Nat.mul_add_mod, Nat.mod_eq_of_lt hk]
