/-! DRAFT, never compiled. Lemmas over the pure picture. -/
theorem ra_max_le {f : Nat → Nat} {b : Nat} : ∀ n, (∀ q, q < n → f q ≤ b) → ra_max f n ≤ b := by
  intro n
  induction n with
  | zero => intro _; exact Nat.zero_le _
  | succ n ih =>
    intro h
    have h1 := ih fun q hq => h q (by omega)
    have h2 := h n (by omega)
    rw [ra_max]; split <;> assumption
theorem ra_le_max {f : Nat → Nat} : ∀ n q, q < n → f q ≤ ra_max f n := by
  intro n
  induction n with
  | zero => intro q hq; omega
  | succ n ih =>
    intro q hq
    rw [ra_max]
    by_cases e : q = n
    · subst e; split <;> omega
    · have := ih q (by omega); split <;> omega
theorem ra_max_const {f : Nat → Nat} {b n : Nat} (h0 : 0 < n) (h : ∀ q, q < n → f q = b) : ra_max f n = b :=
  Nat.le_antisymm (ra_max_le n fun q hq => by rw [h q hq]; exact Nat.le_refl _) (by rw [← h 0 h0]; exact ra_le_max n 0 h0)
theorem ra_max_congr {f g : Nat → Nat} : ∀ n, (∀ q, q < n → f q = g q) → ra_max f n = ra_max g n := by
  intro n
  induction n with
  | zero => intro _; rfl
  | succ n ih => intro h; rw [ra_max, ra_max, ih fun q hq => h q (by omega), h n (by omega)]
theorem ra_first_0 {f : Nat → Int32} : ∀ n, (∀ q, q < n → f q = 0) → ra_first f n = 0 := by
  intro n
  induction n with
  | zero => intro _; rfl
  | succ n ih => intro h; rw [ra_first, if_pos (ih fun q hq => h q (by omega))]; exact h n (by omega)
theorem ra_first_z {f : Nat → Int32} : ∀ n, ra_first f n = 0 → ∀ q, q < n → f q = 0 := by
  intro n
  induction n with
  | zero => intro _ q hq; omega
  | succ n ih =>
    intro h q hq
    rw [ra_first] at h
    by_cases e : ra_first f n = 0
    · rw [if_pos e] at h
      by_cases d : q = n
      · subst d; exact h
      · exact ih e q (by omega)
    · rw [if_neg e] at h; exact absurd h e
theorem ra_first_s {f : Nat → Int32} {q : Nat} (h0 : ra_first f q = 0) (h : f q ≠ 0) : ∀ n, q < n → ra_first f n = f q := by
  intro n
  induction n with
  | zero => intro hq; omega
  | succ n ih =>
    intro hq
    rw [ra_first]
    by_cases e : q = n
    · subst e; rw [if_pos h0]
    · have := ih (by omega)
      rw [if_neg (by rw [this]; exact h), this]
theorem ra_lift_p {a : ra_A} (h : a.1 ≤ 3) : ra_lift a 0 * ra_lift a 1 * ra_lift a 2 = ra_cnt a := by
  obtain ⟨r, d, t⟩ := a
  have h' : r ≤ 3 := h
  match r, h' with
  | 0, _ => simp [ra_lift, ra_cnt, ra_prod]
  | 1, _ => simp [ra_lift, ra_cnt, ra_prod]
  | 2, _ => simp [ra_lift, ra_cnt, ra_prod]
  | 3, _ => simp [ra_lift, ra_cnt, ra_prod]
theorem ra_lift_le {c : Nat} {a : ra_A} (w : ra_W c a) (hc : 1 ≤ c) {j : Nat} (hj : j < 3) : ra_lift a j ≤ c := by
  unfold ra_lift
  have := w.1
  split
  · exact hc
  · exact w.2.1 _ (by omega)
theorem ra_lift_hi {a : ra_A} (h : a.1 ≤ 3) {i : Nat} (hi : i < a.1) : ra_lift a (i + (3 - a.1)) = a.2.1 i := by
  unfold ra_lift
  rw [if_neg (by omega), show i + (3 - a.1) - (3 - a.1) = i by omega]
/-- taken apart and put together -/
theorem ra_split3 {l0 l1 l2 t : Nat} (h : t < l0 * l1 * l2) :
    t / (l1 * l2) < l0 ∧ t / l2 % l1 < l1 ∧ t % l2 < l2 ∧ (t / (l1 * l2) * l1 + t / l2 % l1) * l2 + t % l2 = t := by
  have p2 : 0 < l2 := by
    cases Nat.eq_zero_or_pos l2 with
    | inl z => subst z; simp at h
    | inr z => exact z
  have p1 : 0 < l1 := by
    cases Nat.eq_zero_or_pos l1 with
    | inl z => subst z; simp at h
    | inr z => exact z
  have e : t / (l1 * l2) = t / l2 / l1 := by rw [Nat.div_div_eq_div_mul, Nat.mul_comm]
  refine ⟨?_, Nat.mod_lt _ p1, Nat.mod_lt _ p2, ?_⟩
  · rw [Nat.div_lt_iff_lt_mul (Nat.mul_pos p1 p2), ← Nat.mul_assoc]; exact h
  · rw [e, Nat.div_add_mod' (t / l2) l1, Nat.div_add_mod' t l2]
theorem ra_pl_id {fl : Int32} {z : ra_A} {t : Nat} (hz : z.1 ≤ 3) (h : t < ra_cnt z) : ra_pl fl (ra_lift z 1) (ra_lift z 2) z t = z.2.2 t := by
  rw [← ra_lift_p hz] at h
  obtain ⟨a, b, d, e⟩ := ra_split3 h
  unfold ra_pl
  rw [if_pos ⟨a, b, d⟩, e]
theorem ra_cell_0 (x : ra_A) : ra_cell x 0 0 = x := by
  obtain ⟨r, d, t⟩ := x
  simp [ra_cell]
/-- A of one position is what is done in its cell -/
theorem ra_A_1 {c : Nat} {fl : Int32} {E : ra_A → ra_A → Int32} {R : ra_A → ra_A → ra_A} {x y : ra_A} (hR : E x y = 0 → ra_W c (R x y)) :
    ra_AE c fl E R x y 0 0 = E x y ∧ (E x y = 0 → ra_q (R x y) (ra_AA c fl E R x y 0 0)) := by
  have hp : ra_pos x y 0 0 = 1 := rfl
  have hc0 : ra_cx x y 0 0 0 = x := by unfold ra_cx ra_num; rw [Nat.zero_div]; exact ra_cell_0 x
  have hc1 : ra_cy x y 0 0 0 = y := by unfold ra_cy ra_num; rw [Nat.zero_div]; exact ra_cell_0 y
  have hf : ra_first (fun q => E (ra_cx x y 0 0 q) (ra_cy x y 0 0 q)) 1 = E x y := by
    show (if (0 : Int32) = 0 then E (ra_cx x y 0 0 0) (ra_cy x y 0 0 0) else 0) = E x y
    rw [if_pos rfl, hc0, hc1]
  have hK : ra_K R x y 0 0 1 = (R x y).1 := ra_max_const (by decide) (fun q hq => by
    have : q = 0 := by omega
    subst this; show (R (ra_cx x y 0 0 0) (ra_cy x y 0 0 0)).1 = _; rw [hc0, hc1])
  have hw : ∀ j, ra_w R x y 0 0 1 j = ra_lift (R x y) j := fun j => ra_max_const (by decide) (fun q hq => by
    have : q = 0 := by omega
    subst this; show ra_lift (R (ra_cx x y 0 0 0) (ra_cy x y 0 0 0)) j = _; rw [hc0, hc1])
  have hd : ra_dis x y (if 0 < 0 then 0 else 0) = false := rfl
  have hr : ra_fr 0 0 = 0 := rfl
  constructor
  · unfold ra_AE
    rw [hd, hp, hf, hK, hw, hw, hw, hr, if_neg (by decide), if_neg (by decide)]
    by_cases e : E x y = 0
    · obtain ⟨w1, w2, w3⟩ := hR e
      rw [if_neg (fun z => z e), ra_lift_p w1, if_neg (by omega), e]
    · rw [if_pos e]
  · intro e
    obtain ⟨w1, w2, w3⟩ := hR e
    unfold ra_AA
    rw [hp, if_neg (by decide), hK, hw, hw, hw, hr, ra_lift_p w1]
    refine ⟨(Nat.zero_add _).symm, fun i hi => ?_, fun i hi => ?_⟩
    · show _ = (if i < 0 then ra_F x y 0 0 i else ra_w R x y 0 0 1 (i - 0 + (3 - (R x y).1)))
      rw [if_neg (by omega), hw, Nat.sub_zero, ra_lift_hi w1 hi]
    · show _ = ra_pl fl _ _ (R (ra_cx x y 0 0 (i / ra_cnt (R x y))) (ra_cy x y 0 0 (i / ra_cnt (R x y)))) (i % ra_cnt (R x y))
      rw [Nat.div_eq_of_lt hi, Nat.mod_eq_of_lt hi, hc0, hc1, ra_pl_id w1 hi]
/-! frames -/
theorem ra_F_x {x y : ra_A} {fx fy : Nat} (g : ra_dis x y (if fx < fy then fx else fy) = false) : ∀ i, i < fx → ra_F x y fx fy i = x.2.1 i := fun i hi => by
  unfold ra_F
  by_cases e : fy < fx
  · rw [if_pos e]
  · rw [if_neg e]
    have := ra_any_n g i (by split <;> omega)
    exact (of_decide_eq_false this |> Classical.not_not.mp).symm
theorem ra_F_y {x y : ra_A} {fx fy : Nat} (g : ra_dis x y (if fx < fy then fx else fy) = false) : ∀ i, i < fy → ra_F x y fx fy i = y.2.1 i := fun i hi => by
  unfold ra_F
  by_cases e : fy < fx
  · rw [if_pos e]
    have := ra_any_n g i (by split <;> omega)
    exact (of_decide_eq_false this |> Classical.not_not.mp)
  · rw [if_neg e]
theorem ra_num_lt {x y : ra_A} {fx fy g q : Nat} (hg : g ≤ ra_fr fx fy) (hq : q < ra_pos x y fx fy) : ra_num x y fx fy g q < ra_prod (ra_F x y fx fy) 0 g := by
  unfold ra_num
  unfold ra_pos at hq
  have e := ra_prod_add (ra_F x y fx fy) 0 g (ra_fr fx fy - g)
  rw [Nat.add_sub_cancel' hg, Nat.zero_add] at e
  rw [e] at hq
  exact Nat.div_lt_of_lt_mul (by rw [Nat.mul_comm]; exact hq)
theorem ra_fr_x (fx fy : Nat) : fx ≤ ra_fr fx fy := by unfold ra_fr; split <;> omega
theorem ra_fr_y (fx fy : Nat) : fy ≤ ra_fr fx fy := by unfold ra_fr; split <;> omega
theorem ra_numx {x y : ra_A} {fx fy q : Nat} (g : ra_dis x y (if fx < fy then fx else fy) = false) (hq : q < ra_pos x y fx fy) :
    ra_num x y fx fy fx q < ra_prod x.2.1 0 fx := by
  have h := ra_num_lt (ra_fr_x fx fy) hq
  rw [ra_prod_congr (d' := x.2.1) (f' := 0) fx (fun i hi => by rw [Nat.zero_add]; exact ra_F_x g i hi)] at h
  exact h
theorem ra_numy {x y : ra_A} {fx fy q : Nat} (g : ra_dis x y (if fx < fy then fx else fy) = false) (hq : q < ra_pos x y fx fy) :
    ra_num x y fx fy fy q < ra_prod y.2.1 0 fy := by
  have h := ra_num_lt (ra_fr_y fx fy) hq
  rw [ra_prod_congr (d' := y.2.1) (f' := 0) fy (fun i hi => by rw [Nat.zero_add]; exact ra_F_y g i hi)] at h
  exact h
theorem ra_cx_W {c : Nat} {x y : ra_A} {fx fy q : Nat} (w : ra_W c x) (hx : fx ≤ x.1) (g : ra_dis x y (if fx < fy then fx else fy) = false) (hq : q < ra_pos x y fx fy) : ra_W c (ra_cx x y fx fy q) :=
  ra_cell_W w hx (ra_numx g hq)
theorem ra_cy_W {c : Nat} {x y : ra_A} {fx fy q : Nat} (w : ra_W c y) (hy : fy ≤ y.1) (g : ra_dis x y (if fx < fy then fx else fy) = false) (hq : q < ra_pos x y fx fy) : ra_W c (ra_cy x y fx fy q) :=
  ra_cell_W w hy (ra_numy g hq)
theorem ra_F_le {c : Nat} {x y : ra_A} {fx fy : Nat} (wx : ra_W c x) (wy : ra_W c y) (hx : fx ≤ x.1) (hy : fy ≤ y.1) : ∀ i, i < ra_fr fx fy → ra_F x y fx fy i ≤ c := fun i hi => by
  unfold ra_F
  unfold ra_fr at hi
  by_cases e : fy < fx
  · rw [if_pos e] at hi ⊢; exact wx.2.1 i (by omega)
  · rw [if_neg e] at hi ⊢; exact wy.2.1 i (by omega)
theorem ra_fr_3 {c : Nat} {x y : ra_A} {fx fy : Nat} (wx : ra_W c x) (wy : ra_W c y) (hx : fx ≤ x.1) (hy : fy ≤ y.1) : ra_fr fx fy ≤ 3 := by
  have := wx.1; have := wy.1; unfold ra_fr; split <;> omega
/-- a shape glued of two -/
theorem ra_glue (F G : Nat → Nat) (m : Nat) : ∀ k, ra_prod (fun i => if i < m then F i else G (i - m)) 0 (m + k) = ra_prod F 0 m * ra_prod G 0 k := by
  intro k
  rw [ra_prod_add]
  have e1 : ra_prod (fun i => if i < m then F i else G (i - m)) 0 m = ra_prod F 0 m := ra_prod_congr m (fun i hi => by
    show (if 0 + i < m then F (0 + i) else G (0 + i - m)) = F (0 + i)
    rw [if_pos (by omega)])
  have e2 : ra_prod (fun i => if i < m then F i else G (i - m)) (0 + m) k = ra_prod G 0 k := ra_prod_congr k (fun i hi => by
    show (if 0 + m + i < m then F (0 + m + i) else G (0 + m + i - m)) = G (0 + i)
    rw [if_neg (by omega), show 0 + m + i - m = 0 + i by omega])
  rw [e1, e2]
theorem ra_w3 {w : Nat → Nat} {K : Nat} (hK : K ≤ 3) (h : ∀ j, j < 3 - K → w j = 1) : ra_prod (fun i => w (i + (3 - K))) 0 K = w 0 * w 1 * w 2 := by
  match K, hK, h with
  | 0, _, h => simp [ra_prod, h 0 (by decide), h 1 (by decide), h 2 (by decide)]
  | 1, _, h => simp [ra_prod, h 0 (by decide), h 1 (by decide)]
  | 2, _, h => simp [ra_prod, h 0 (by decide)]
  | 3, _, _ => simp [ra_prod]
