/-! what a level's arrays say (X) -/
def xv_V (xs ys xf yf fs fr : Nat → Int32) (L sx sy fx fy : Nat) : Prop :=
  xs L = nI sx ∧ ys L = nI sy ∧ xf L = nI fx ∧ yf L = nI fy ∧ fs L = nI (if fy < fx then sx else sy) ∧ fr L = nI (ra_fr fx fy)
def xv_D (wr wd : Nat → Int32) (L K : Nat) (w : Nat → Nat) : Prop := wr L = nI K ∧ ∀ i, i < 3 → wd (L * 3 + i) = nI (w i)
def xv_E (L : Nat) (xs ys xf yf fs fr wr wd xs' ys' xf' yf' fs' fr' wr' wd' : Nat → Int32) : Prop :=
  xs' L = xs L ∧ ys' L = ys L ∧ xf' L = xf L ∧ yf' L = yf L ∧ fs' L = fs L ∧ fr' L = fr L ∧ wr' L = wr L ∧ ∀ i, i < 3 → wd' (L * 3 + i) = wd (L * 3 + i)
theorem xv_E_r {L : Nat} {xs ys xf yf fs fr wr wd : Nat → Int32} : xv_E L xs ys xf yf fs fr wr wd xs ys xf yf fs fr wr wd :=
  ⟨rfl, rfl, rfl, rfl, rfl, rfl, rfl, fun _ _ => rfl⟩
theorem xv_E_t {L : Nat} {xs ys xf yf fs fr wr wd xs' ys' xf' yf' fs' fr' wr' wd' xs2 ys2 xf2 yf2 fs2 fr2 wr2 wd2 : Nat → Int32}
    (h : xv_E L xs ys xf yf fs fr wr wd xs' ys' xf' yf' fs' fr' wr' wd') (g : xv_E L xs' ys' xf' yf' fs' fr' wr' wd' xs2 ys2 xf2 yf2 fs2 fr2 wr2 wd2) :
    xv_E L xs ys xf yf fs fr wr wd xs2 ys2 xf2 yf2 fs2 fr2 wr2 wd2 := by
  obtain ⟨a1, a2, a3, a4, a5, a6, a7, a8⟩ := h
  obtain ⟨b1, b2, b3, b4, b5, b6, b7, b8⟩ := g
  exact ⟨b1.trans a1, b2.trans a2, b3.trans a3, b4.trans a4, b5.trans a5, b6.trans a6, b7.trans a7, fun i hi => (b8 i hi).trans (a8 i hi)⟩
theorem xv_V_E {L sx sy fx fy : Nat} {xs ys xf yf fs fr wr wd xs' ys' xf' yf' fs' fr' wr' wd' : Nat → Int32}
    (h : xv_E L xs ys xf yf fs fr wr wd xs' ys' xf' yf' fs' fr' wr' wd') (g : xv_V xs ys xf yf fs fr L sx sy fx fy) : xv_V xs' ys' xf' yf' fs' fr' L sx sy fx fy := by
  obtain ⟨a1, a2, a3, a4, a5, a6, a7, a8⟩ := h
  obtain ⟨b1, b2, b3, b4, b5, b6⟩ := g
  exact ⟨a1.trans b1, a2.trans b2, a3.trans b3, a4.trans b4, a5.trans b5, a6.trans b6⟩
theorem xv_D_E {L K : Nat} {w : Nat → Nat} {xs ys xf yf fs fr wr wd xs' ys' xf' yf' fs' fr' wr' wd' : Nat → Int32}
    (h : xv_E L xs ys xf yf fs fr wr wd xs' ys' xf' yf' fs' fr' wr' wd') (g : xv_D wr wd L K w) : xv_D wr' wd' L K w := by
  obtain ⟨a1, a2, a3, a4, a5, a6, a7, a8⟩ := h
  exact ⟨a7.trans g.1, fun i hi => (a8 i hi).trans (g.2 i hi)⟩
/-- the slots that what is done in a cell of level L leaves alone -/
def xv_P (L j : Nat) : Prop := j ≠ 10 ∧ (L = 0 → j ≠ 5 ∧ j ≠ 7 ∧ j ≠ 9)
/-- the slots that A at level L leaves alone -/
def xv_Q (L j : Nat) : Prop := xv_P L j ∧ j ≠ 4 + L ∧ j ≠ 6 + L ∧ j ≠ 8 + L
theorem xv_Q_1 {j : Nat} : xv_Q 1 j ↔ xv_P 0 j := by unfold xv_Q xv_P; omega
/-- the slot that has the frame -/
theorem xv_frame {rk dm am : Nat → Int32} {sx sy fx fy : Nat} {x y : ra_A} (hx : ra_H rk dm am sx x) (hy : ra_H rk dm am sy y) (hfx : fx ≤ x.1) (hfy : fy ≤ y.1) :
    ∀ i, i < ra_fr fx fy → dm ((if fy < fx then sx else sy) * 3 + i) = nI (ra_F x y fx fy i) := fun i hi => by
  unfold ra_fr at hi
  unfold ra_F
  by_cases e : fy < fx
  · rw [if_pos e] at hi ⊢; rw [if_pos e]; exact hx.2.1 i (by omega)
  · rw [if_neg e] at hi ⊢; rw [if_neg e]; exact hy.2.1 i (by omega)
