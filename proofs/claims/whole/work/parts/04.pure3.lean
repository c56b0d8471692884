/-! DRAFT, never compiled. The limits are kept: P, A, B. -/
theorem ra_cl_le {z : Int32} {c : Nat} (hc : c < 2 ^ 31) (h : ¬ nI c < z) : z.toNatClampNeg ≤ c := by
  rw [Int32.lt_iff_toInt_lt, nI_toInt hc] at h
  show z.toInt.toNat ≤ c
  omega
theorem ra_cnt_1 (d : Nat → Nat) (r : Nat) : ra_prod d 0 (1 + r) = d 0 * ra_prod d 1 r := by
  rw [ra_prod_add]; simp [ra_prod]
theorem ra_sc_W {c : Nat} (hc : 1 ≤ c) (z : Int32) : ra_W c (ra_sc z) := ⟨Nat.zero_le _, fun i hi => absurd hi (Nat.not_lt_zero i), hc⟩
theorem ra_l1_W {c n : Nat} {t : Nat → Int32} (h : n ≤ c) : ra_W c (1, fun _ => n, t) :=
  ⟨show 1 ≤ 3 by decide, fun _ _ => h, by show 1 * n ≤ c; omega⟩
theorem ra_it_cnt {y : ra_A} (h : y.1 ≠ 0) : ra_cnt y = ra_len y * ra_it y := by
  unfold ra_cnt ra_len ra_it
  rw [if_neg h]
  have e := ra_cnt_1 y.2.1 (y.1 - 1)
  rw [show 1 + (y.1 - 1) = y.1 by omega] at e
  exact e
theorem ra_it_0 {y : ra_A} (h : y.1 = 0) : ra_it y = 1 ∧ ra_len y = 1 ∧ ra_cnt y = 1 := by
  unfold ra_cnt ra_len ra_it; rw [h]; exact ⟨rfl, rfl, rfl⟩
theorem ra_cnt_li (y : ra_A) : ra_cnt y = ra_len y * ra_it y := by
  by_cases h : y.1 = 0
  · obtain ⟨a, b, d⟩ := ra_it_0 h; rw [a, b, d]
  · exact ra_it_cnt h
theorem ra_tail_W {c : Nat} {y : ra_A} {t : Nat → Int32} (wy : ra_W c y) (h : ra_it y ≤ c) : ra_W c (y.1 - 1, fun i => y.2.1 (1 + i), t) := by
  refine ⟨Nat.le_trans (Nat.sub_le _ _) wy.1, fun i hi => wy.2.1 (1 + i) (by have : i < y.1 - 1 := hi; omega), ?_⟩
  have e : ra_cnt (y.1 - 1, fun i => y.2.1 (1 + i), t) = ra_it y := ra_prod_congr _ (fun i _ => by rw [Nat.zero_add])
  rw [e]; exact h
theorem ra_take_W {c m : Nat} {y : ra_A} {t : Nat → Int32} (wy : ra_W c y) (hm : m ≤ c) (h : m * ra_it y ≤ c) :
    ra_W c (if y.1 = 0 then 1 else y.1, fun i => if i = 0 then m else y.2.1 i, t) := by
  have e : ra_cnt (if y.1 = 0 then 1 else y.1, fun i => if i = 0 then m else y.2.1 i, t) = m * ra_it y := by
    by_cases h0 : y.1 = 0
    · rw [(ra_it_0 h0).1, if_pos h0]; show 1 * m = m * 1; omega
    · rw [if_neg h0]
      have e := ra_cnt_1 (fun i => if i = 0 then m else y.2.1 i) (y.1 - 1)
      rw [show 1 + (y.1 - 1) = y.1 by omega] at e
      refine e.trans ?_
      show m * _ = m * _
      congr 1
      exact ra_prod_congr _ (fun i _ => if_neg (by omega))
  refine ⟨?_, fun i hi => ?_, by rw [e]; exact h⟩
  · have := wy.1
    show (if y.1 = 0 then 1 else y.1) ≤ 3
    split <;> omega
  · show (if i = 0 then m else y.2.1 i) ≤ c
    have hi' : i < (if y.1 = 0 then 1 else y.1) := hi
    by_cases i0 : i = 0
    · rw [if_pos i0]; exact hm
    · rw [if_neg i0]; exact wy.2.1 i (by split at hi' <;> omega)
theorem ra_resh_W {c : Nat} {x : ra_A} {t : Nat → Int32} (hc : c < 2 ^ 31) (h3 : ¬ 3 < ra_cnt x) (hb : ra_big c x = false)
    (hp : ¬ c < ra_prod (fun i => (x.2.2 i).toNatClampNeg) 0 (ra_cnt x)) : ra_W c (ra_cnt x, fun i => (x.2.2 i).toNatClampNeg, t) :=
  ⟨Nat.le_of_not_lt h3, fun i hi => ra_cl_le hc (of_decide_eq_false (ra_any_n hb i hi)), Nat.le_of_not_lt hp⟩
theorem ra_P_W {c v : Nat} {fl : Int32} {x y : ra_A} (h8 : 8 ≤ c) (hc : c ≤ 32) (hv : v ≤ 12) (wy : ra_W c y) (h : ra_PE c v x y = 0) : ra_W c (ra_PA fl v x y) := by
  have h1 : 1 ≤ c := by omega
  have h31 : c < 2 ^ 31 := by omega
  unfold ra_PA
  unfold ra_PE at h
  match v, hv with
  | 0, _ => exact ra_sc_W h1 _
  | 1, _ =>
    have h' : (if y.2.2 0 < 0 then (-2 : Int32) else if nI c < y.2.2 0 then -4 else 0) = 0 := h
    show ra_W c (1, fun _ => (y.2.2 0).toNatClampNeg, fun i => nI i)
    refine ra_l1_W (ra_cl_le h31 fun z => ?_)
    by_cases y0 : y.2.2 0 < 0
    · rw [if_pos y0] at h'; exact absurd h' (by decide)
    · rw [if_neg y0, if_pos z] at h'; exact absurd h' (by decide)
  | 2, _ => exact ra_l1_W (Nat.le_trans wy.1 (by omega))
  | 3, _ => exact wy
  | 4, _ => exact ra_tail_W wy (Nat.le_of_not_lt fun z => by
      have h' : (if c < ra_it y then (-4 : Int32) else 0) = 0 := h
      rw [if_pos z] at h'; exact absurd h' (by decide))
  | 5, _ => exact ra_l1_W wy.2.2
  | 6, _ => exact ra_sc_W h1 _
  | 7, _ => exact ra_sc_W h1 _
  | 8, _ => exact ra_sc_W h1 _
  | 9, _ => exact ra_sc_W h1 _
  | 10, _ =>
    have h' : (if ra_neg x = true then (-2 : Int32)
       else if 3 < ra_cnt x ∨ ra_big c x = true ∨ c < ra_prod (fun i => (x.2.2 i).toNatClampNeg) 0 (ra_cnt x) then -4 else 0) = 0 := h
    split at h'
    · exact absurd h' (by decide)
    · split at h'
      · exact absurd h' (by decide)
      · rename_i _ g
        exact ra_resh_W h31 (fun z => g (.inl z)) (by cases e : ra_big c x with
          | false => rfl
          | true => exact absurd (.inr (.inl e)) g) (fun z => g (.inr (.inr z)))
  | 11, _ =>
    have h' : (if c < ra_abs (x.2.2 0) ∨ c < ra_abs (x.2.2 0) * ra_it y then (-4 : Int32) else 0) = 0 := h
    split at h'
    · exact absurd h' (by decide)
    · rename_i g
      exact ra_take_W wy (Nat.le_of_not_lt fun z => g (.inl z)) (Nat.le_of_not_lt fun z => g (.inr z))
  | 12, _ =>
    have h' : (if (x.2.2 0).toInt < -(ra_len y : Int) ∨ (ra_len y : Int) ≤ (x.2.2 0).toInt then (-3 : Int32) else 0) = 0 := h
    split at h'
    · exact absurd h' (by decide)
    · rename_i g
      have hl : 0 < ra_len y := by
        cases Nat.eq_zero_or_pos (ra_len y) with
        | inl z => exact absurd (by omega) g
        | inr z => exact z
      refine ra_tail_W wy (Nat.le_trans (Nat.le_mul_of_pos_left _ hl) ?_)
      rw [← ra_cnt_li]; exact wy.2.2
/-- below K the widths are ones -/
theorem ra_w_1 {R : ra_A → ra_A → ra_A} {x y : ra_A} {fx fy n : Nat} (h0 : 0 < n) : ∀ j, j < 3 - ra_K R x y fx fy n → ra_w R x y fx fy n j = 1 := fun j hj =>
  ra_max_const h0 (fun q hq => by
    have h := ra_le_max (f := fun q => (R (ra_cx x y fx fy q) (ra_cy x y fx fy q)).1) n q hq
    show ra_lift _ j = 1
    unfold ra_lift
    rw [if_pos]
    have h' : (R (ra_cx x y fx fy q) (ra_cy x y fx fy q)).1 ≤ ra_K R x y fx fy n := h
    omega)
/-- what a cell's E and R must keep -/
def ra_ok (c : Nat) (E : ra_A → ra_A → Int32) (R : ra_A → ra_A → ra_A) : Prop := ∀ x y, ra_W c x → ra_W c y → E x y = 0 → ra_W c (R x y)
theorem ra_S0_W {c : Nat} {fl : Int32} {E : ra_A → ra_A → Int32} {R : ra_A → ra_A → ra_A} {x y : ra_A} {fx fy : Nat} (h1 : 1 ≤ c) (ok : ra_ok c E R) (wx : ra_W c x) (wy : ra_W c y) :
    ra_W c (ra_S0 c fl E R x y fx fy) := by
  unfold ra_S0
  split
  · exact ra_sc_W h1 _
  · rename_i g
    split
    · rename_i e
      exact ok _ _ (ra_fc_W wx (Nat.le_of_not_lt fun z => g (.inl z))) (ra_fc_W wy (Nat.le_of_not_lt fun z => g (.inr z))) e
    · exact ra_sc_W h1 _
theorem ra_A_W {c : Nat} {fl : Int32} {E : ra_A → ra_A → Int32} {R : ra_A → ra_A → ra_A} {x y : ra_A} {fx fy : Nat} (h1 : 1 ≤ c) (ok : ra_ok c E R) (wx : ra_W c x) (wy : ra_W c y)
    (hx : fx ≤ x.1) (hy : fy ≤ y.1) (h : ra_AE c fl E R x y fx fy = 0) : ra_W c (ra_AA c fl E R x y fx fy) := by
  have g' : ra_dis x y (if fx < fy then fx else fy) = false := by
    cases e : ra_dis x y (if fx < fy then fx else fy) with
    | false => rfl
    | true =>
      exfalso
      unfold ra_AE at h
      rw [if_pos e] at h
      exact absurd h (by decide)
  unfold ra_AE at h
  rw [g', if_neg Bool.false_ne_true] at h
  unfold ra_AA
  have hF := ra_F_le wx wy hx hy
  by_cases p0 : ra_pos x y fx fy = 0
  · rw [if_pos p0] at h ⊢
    have s3 : ¬ 3 < ra_fr fx fy + (ra_S0 c fl E R x y fx fy).1 := fun z => by
      rw [if_pos z] at h; exact absurd h (by decide)
    have sW := ra_S0_W (fl := fl) (fx := fx) (fy := fy) h1 ok wx wy
    refine ⟨Nat.le_of_not_lt s3, fun i hi => ?_, ?_⟩
    · show (if i < ra_fr fx fy then ra_F x y fx fy i else _) ≤ c
      by_cases e : i < ra_fr fx fy
      · rw [if_pos e]; exact hF i e
      · rw [if_neg e]; exact sW.2.1 _ (by have : i < ra_fr fx fy + _ := hi; omega)
    · have e := ra_glue (ra_F x y fx fy) (ra_S0 c fl E R x y fx fy).2.1 (ra_fr fx fy) (ra_S0 c fl E R x y fx fy).1
      show ra_prod _ 0 _ ≤ c
      rw [e]
      have : ra_prod (ra_F x y fx fy) 0 (ra_fr fx fy) = 0 := p0
      rw [this, Nat.zero_mul]; exact Nat.zero_le _
  · rw [if_neg p0] at h ⊢
    have fz : ra_first (fun q => E (ra_cx x y fx fy q) (ra_cy x y fx fy q)) (ra_pos x y fx fy) = 0 := by
      by_cases z : ra_first (fun q => E (ra_cx x y fx fy q) (ra_cy x y fx fy q)) (ra_pos x y fx fy) = 0
      · exact z
      · rw [if_pos z] at h; exact absurd h z
    rw [if_neg (fun z => z fz)] at h
    have lz : ¬ (3 < ra_fr fx fy + ra_K R x y fx fy (ra_pos x y fx fy) ∨
        c < ra_pos x y fx fy * (ra_w R x y fx fy (ra_pos x y fx fy) 0 * ra_w R x y fx fy (ra_pos x y fx fy) 1 * ra_w R x y fx fy (ra_pos x y fx fy) 2)) := fun z => by
      rw [if_pos z] at h; exact absurd h (by decide)
    have fz' := ra_first_z _ fz
    have pp : 0 < ra_pos x y fx fy := Nat.pos_of_ne_zero p0
    have zW : ∀ q, q < ra_pos x y fx fy → ra_W c (R (ra_cx x y fx fy q) (ra_cy x y fx fy q)) := fun q hq =>
      ok _ _ (ra_cx_W wx hx g' hq) (ra_cy_W wy hy g' hq) (fz' q hq)
    have k3 : ra_K R x y fx fy (ra_pos x y fx fy) ≤ 3 := ra_max_le _ fun q hq => (zW q hq).1
    refine ⟨Nat.le_of_not_lt fun z => lz (.inl z), fun i hi => ?_, ?_⟩
    · show (if i < ra_fr fx fy then ra_F x y fx fy i else _) ≤ c
      by_cases e : i < ra_fr fx fy
      · rw [if_pos e]; exact hF i e
      · rw [if_neg e]
        have hi' : i < ra_fr fx fy + ra_K R x y fx fy (ra_pos x y fx fy) := hi
        exact ra_max_le _ fun q hq => ra_lift_le (zW q hq) h1 (by omega)
    · have e := ra_glue (ra_F x y fx fy) (fun i => ra_w R x y fx fy (ra_pos x y fx fy) (i + (3 - ra_K R x y fx fy (ra_pos x y fx fy)))) (ra_fr fx fy) (ra_K R x y fx fy (ra_pos x y fx fy))
      show ra_prod _ 0 _ ≤ c
      rw [e, ra_w3 k3 (ra_w_1 pp)]
      exact Nat.le_of_not_lt fun z => lz (.inr z)
theorem ra_P_ok {c v : Nat} {fl : Int32} (h8 : 8 ≤ c) (hc : c ≤ 32) (hv : v ≤ 12) : ra_ok c (ra_PE c v) (ra_PA fl v) := fun _ _ _ wy h => ra_P_W h8 hc hv wy h
theorem ra_B_ok {c v : Nat} {fl : Int32} (h8 : 8 ≤ c) (hc : c ≤ 32) (hv : v ≤ 12) : ra_ok c (ra_BE c fl v) (ra_BA c fl v) := fun _ _ wx wy h =>
  ra_A_W (by omega) (ra_P_ok h8 hc hv) wx wy (Nat.sub_le _ _) (Nat.sub_le _ _) h
