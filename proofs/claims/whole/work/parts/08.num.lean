/-! numbers of either sign -/
theorem ra_t0 : (0 : Int32).toInt = 0 := rfl
theorem ra_abs_c {z : Int32} {c : Nat} (hc : c < 2 ^ 30) : (nI c < z ∨ z < -nI c) ↔ c < ra_abs z := by
  unfold ra_abs
  rw [Int32.lt_iff_toInt_lt, Int32.lt_iff_toInt_lt, nI_toInt (by omega), sb_negT (by omega)]
  omega
theorem ra_abs_p {z : Int32} (h : ¬ z < 0) : z = nI (ra_abs z) := by
  obtain ⟨j, hj, rfl⟩ := nI_of h
  unfold ra_abs
  rw [nI_toInt hj]
  rfl
theorem ra_abs_n {z : Int32} (h : z < 0) (hm : ra_abs z < 2 ^ 31) : -z = nI (ra_abs z) := by
  apply Int32.toInt_inj.mp
  rw [nI_toInt hm]
  unfold ra_abs at hm ⊢
  rw [Int32.lt_iff_toInt_lt, ra_t0] at h
  rw [Int32.toInt_neg, Int.bmod_eq_of_le (by omega) (by omega)]
  omega
theorem ra_idx_n {z : Int32} {n : Nat} (hn : n < 2 ^ 30) (h : z < 0) (g : ¬ z < -nI n) : nI n + z = nI (n - ra_abs z) ∧ n - ra_abs z < n := by
  rw [Int32.lt_iff_toInt_lt, sb_negT (by omega)] at g
  rw [Int32.lt_iff_toInt_lt, ra_t0] at h
  unfold ra_abs
  refine ⟨?_, by omega⟩
  apply Int32.toInt_inj.mp
  rw [nI_toInt (by omega), Int32.toInt_add, nI_toInt (by omega), Int.bmod_eq_of_le (by omega) (by omega)]
  omega
theorem ra_skip (a b d : Int32) : a - b + d = a + d - b := by grind
theorem ra_skip_p {n m k : Nat} (h : m ≤ n + k) : nI n - nI m + nI k = nI (n + k - m) := by
  rw [ra_skip, nI_add, pk_sub h]
theorem ra_skip_n {n m k : Nat} (hm : m < 2 ^ 30) (h : n + k < m) : nI n - nI m + nI k < 0 := by
  rw [ra_skip, nI_add]; exact pk_sneg hm h
/-- the item at k, the atom at i of it -/
theorem ra_item {z k i : Nat} (hi : i < z) : (k * z + i) / z = k ∧ (k * z + i) % z = i := by
  have p : 0 < z := by omega
  constructor
  · rw [Nat.mul_comm, Nat.mul_add_div p, Nat.div_eq_of_lt hi, Nat.add_zero]
  · rw [Nat.mul_comm, Nat.mul_add_mod, Nat.mod_eq_of_lt hi]
theorem ra_in3 {s0 s1 s2 i j k : Nat} (hi : i < s0) (hj : j < s1) (hk : k < s2) : (i * s1 + j) * s2 + k < s0 * s1 * s2 :=
  ra_part (ra_part hi (Nat.le_refl _) hj) (Nat.le_refl _) hk
theorem ra_pl_join {fl : Int32} {z : ra_A} {w1 w2 i j k : Nat} (hj : j < w1) (hk : k < w2) :
    ra_pl fl w1 w2 z ((i * w1 + j) * w2 + k) = if i < ra_lift z 0 ∧ j < ra_lift z 1 ∧ k < ra_lift z 2 then z.2.2 ((i * ra_lift z 1 + j) * ra_lift z 2 + k) else fl := by
  obtain ⟨a, b, d⟩ := ra_join (i := i) hj hk
  unfold ra_pl
  rw [a, b, d]
/-! comparisons with literals -/
theorem ra_ge {a b : Nat} (ha : a < 2 ^ 31) (hb : b < 2 ^ 31) : ¬ nI a ≤ nI b ↔ b < a := by rw [nI_leI ha hb]; omega
theorem ra_le3 {i : Nat} (h : i < 2 ^ 31) : (3 : Int32) ≤ nI i ↔ 3 ≤ i := nI_leI (a := 3) (by decide) h
theorem ra_le4 {i : Nat} (h : i < 2 ^ 31) : (4 : Int32) ≤ nI i ↔ 4 ≤ i := nI_leI (a := 4) (by decide) h
theorem ra_le32 {i : Nat} (h : i < 2 ^ 31) : (32 : Int32) ≤ nI i ↔ 32 ≤ i := nI_leI (a := 32) (by decide) h
theorem ra_le2 {i : Nat} (h : i < 2 ^ 31) : (2 : Int32) ≤ nI i ↔ 2 ≤ i := nI_leI (a := 2) (by decide) h
theorem ra_lt4 {i : Nat} (h : i < 2 ^ 31) : nI i < (4 : Int32) ↔ i < 4 := nI_ltI (b := 4) h (by decide)
theorem ra_lt3 {i : Nat} (h : i < 2 ^ 31) : nI i < (3 : Int32) ↔ i < 3 := nI_ltI (b := 3) h (by decide)
theorem ra_gt3 {i : Nat} (h : i < 2 ^ 31) : nI i ≤ (3 : Int32) ↔ i ≤ 3 := nI_leI (b := 3) h (by decide)
theorem ra_lt32 {i : Nat} (h : i < 2 ^ 31) : nI i < (32 : Int32) ↔ i < 32 := nI_ltI (b := 32) h (by decide)
theorem ra_lt0 {i : Nat} (h : i < 2 ^ 31) : nI i < (0 : Int32) ↔ False := ⟨fun z => nI_pos h z, False.elim⟩
theorem ra_ge0 {i : Nat} (h : i < 2 ^ 31) : (0 : Int32) ≤ nI i ↔ True := ⟨fun _ => True.intro, fun _ => nI_pos' h⟩
theorem ra_eq0 {i : Nat} (h : i < 2 ^ 31) : nI i = (0 : Int32) ↔ i = 0 := nI_eq (b := 0) h (by decide)
theorem ra_le0 {i : Nat} (h : i < 2 ^ 31) : nI i ≤ (0 : Int32) ↔ i = 0 := by
  rw [show (0 : Int32) = nI 0 from rfl, nI_leI h (by decide)]; omega
theorem ra_gt0 {i : Nat} (h : i < 2 ^ 31) : (0 : Int32) < nI i ↔ 0 < i := nI_ltI (a := 0) (by decide) h
theorem ra_eq1 {i : Nat} (h : i < 2 ^ 31) : nI i = (1 : Int32) ↔ i = 1 := nI_eq (b := 1) h (by decide)
/-! slots written anew, whole -/
theorem ra_H_sc {rk dm am : Nat → Int32} {t : Nat} {z : Int32} : ra_H (upd rk t 0) dm (upd am (t * 32) z) t (ra_sc z) := by
  refine ⟨pk_us, fun i hi => absurd hi (Nat.not_lt_zero i), fun i hi => ?_⟩
  have hi' : i < 1 := hi
  have : i = 0 := by omega
  subst this
  exact pk_us
theorem ra_S_sc {rk dm am : Nat → Int32} {t j : Nat} {z w : Int32} (h : j ≠ t) : ra_S rk dm am (upd rk t z) dm (upd am (t * 32) w) j :=
  ⟨pk_un h, fun _ _ => rfl, fun i hi => pk_un (by omega)⟩
theorem ra_H_list {rk dm am : Nat → Int32} {t n : Nat} {g a : Nat → Int32} (ha : ∀ i, i < n → g i = a i) : ra_H (upd rk t 1) (upd dm (t * 3) (nI n)) (ra_blk am (t * 32) n g) t (1, fun _ => n, a) := by
  refine ⟨pk_us, fun i hi => ?_, fun i hi => ?_⟩
  · have hi' : i < 1 := hi
    have : i = 0 := by omega
    subst this
    exact pk_us
  · have hi' : i < 1 * n := hi
    rw [ra_blk_in (by omega)]
    exact ha i (by omega)
theorem ra_S_list {rk dm am : Nat → Int32} {t n j : Nat} {z w : Int32} {g : Nat → Int32} (hn : n ≤ 32) (h : j ≠ t) : ra_S rk dm am (upd rk t z) (upd dm (t * 3) w) (ra_blk am (t * 32) n g) j :=
  ⟨pk_un h, fun i hi => pk_un (by omega), fun i hi => ra_blk_out (by omega)⟩
