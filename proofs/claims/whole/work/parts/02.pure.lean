/-! DRAFT, never compiled (rounds 1 and 2 build nothing). The pure picture of RankAgreement: arrays, P, A, inner and outer. -/
/-- a pure array: rank, axis lengths, atoms in row-major order -/
abbrev ra_A : Type := Nat × (Nat → Nat) × (Nat → Int32)
/-- the product of d f .. d (f + n - 1) -/
def ra_prod (d : Nat → Nat) (f : Nat) : Nat → Nat
  | 0 => 1
  | n + 1 => ra_prod d f n * d (f + n)
def ra_cnt (a : ra_A) : Nat := ra_prod a.2.1 0 a.1
theorem ra_prod_add (d : Nat → Nat) (f m : Nat) : ∀ n, ra_prod d f (m + n) = ra_prod d f m * ra_prod d (f + m) n := by
  intro n
  induction n with
  | zero => simp [ra_prod]
  | succ n ih => rw [← Nat.add_assoc, ra_prod, ra_prod, ih, Nat.mul_assoc, Nat.add_assoc]
theorem ra_prod_congr {d d' : Nat → Nat} {f f' : Nat} : ∀ n, (∀ i, i < n → d (f + i) = d' (f' + i)) → ra_prod d f n = ra_prod d' f' n := by
  intro n
  induction n with
  | zero => intro _; rfl
  | succ n ih => intro h; rw [ra_prod, ra_prod, ih (fun i hi => h i (by omega)), h n (by omega)]
theorem ra_prod_le {d : Nat → Nat} {f b : Nat} : ∀ n, (∀ i, i < n → d (f + i) ≤ b) → ra_prod d f n ≤ b ^ n := by
  intro n
  induction n with
  | zero => intro _; exact Nat.le_refl _
  | succ n ih => intro h; rw [ra_prod, Nat.pow_succ]; exact Nat.mul_le_mul (ih fun i hi => h i (by omega)) (h n (by omega))
theorem ra_p32 {n : Nat} (h : n ≤ 3) : 32 ^ n ≤ 32768 := Nat.le_trans (Nat.pow_le_pow_right (by decide) h) (by decide)
theorem ra_prod_pos {d : Nat → Nat} {f : Nat} : ∀ n, 0 < ra_prod d f n → ∀ i, i < n → 0 < d (f + i) := by
  intro n
  induction n with
  | zero => intro _ i hi; omega
  | succ n ih =>
    intro h i hi
    rw [ra_prod] at h
    have h1 := Nat.pos_of_mul_pos_left h
    have h2 := Nat.pos_of_mul_pos_right h
    by_cases e : i = n
    · subst e; first | exact h1 | exact h2
    · exact ih (by first | exact h1 | exact h2) i (by omega)
theorem ra_prod_pos' {d : Nat → Nat} {f : Nat} : ∀ n, (∀ i, i < n → 0 < d (f + i)) → 0 < ra_prod d f n := by
  intro n
  induction n with
  | zero => intro _; exact Nat.one_pos
  | succ n ih => intro h; rw [ra_prod]; exact Nat.mul_pos (ih fun i hi => h i (by omega)) (h n (by omega))
theorem ra_prod_0 {d : Nat → Nat} {f : Nat} : ∀ n i, i < n → d (f + i) = 0 → ra_prod d f n = 0 := by
  intro n i hi h
  cases Nat.eq_zero_or_pos (ra_prod d f n) with
  | inl z => exact z
  | inr z => exact absurd (ra_prod_pos n z i hi) (by omega)
/-- arrays alike below rank and count -/
def ra_q (a b : ra_A) : Prop := a.1 = b.1 ∧ (∀ i, i < a.1 → a.2.1 i = b.2.1 i) ∧ (∀ i, i < ra_cnt a → a.2.2 i = b.2.2 i)
/-- the LIMITS -/
def ra_W (c : Nat) (a : ra_A) : Prop := a.1 ≤ 3 ∧ (∀ i, i < a.1 → a.2.1 i ≤ c) ∧ ra_cnt a ≤ c
/-- slot s holds a: the layout is the same on both sides -/
def ra_H (rk dm am : Nat → Int32) (s : Nat) (a : ra_A) : Prop :=
  rk s = nI a.1 ∧ (∀ i, i < a.1 → dm (s * 3 + i) = nI (a.2.1 i)) ∧ (∀ i, i < ra_cnt a → am (s * 32 + i) = a.2.2 i)
/-- slot s is as it was -/
def ra_S (rk dm am rk' dm' am' : Nat → Int32) (s : Nat) : Prop :=
  rk' s = rk s ∧ (∀ i, i < 3 → dm' (s * 3 + i) = dm (s * 3 + i)) ∧ (∀ i, i < 32 → am' (s * 32 + i) = am (s * 32 + i))
theorem ra_cnt_q {a b : ra_A} (h : ra_q a b) : ra_cnt a = ra_cnt b := by
  unfold ra_cnt
  rw [← h.1]
  exact ra_prod_congr _ (fun i hi => by rw [Nat.zero_add]; exact h.2.1 i hi)
theorem ra_H_q {rk dm am : Nat → Int32} {s : Nat} {a b : ra_A} (h : ra_H rk dm am s a) (e : ra_q a b) : ra_H rk dm am s b :=
  ⟨h.1.trans (by rw [e.1]), fun i hi => (h.2.1 i (by rw [e.1]; exact hi)).trans (by rw [e.2.1 i (by rw [e.1]; exact hi)]),
    fun i hi => (h.2.2 i (by rw [ra_cnt_q e]; exact hi)).trans (e.2.2 i (by rw [ra_cnt_q e]; exact hi))⟩
theorem ra_H_S {rk dm am rk' dm' am' : Nat → Int32} {s c : Nat} {a : ra_A} (h : ra_H rk dm am s a) (w : ra_W c a) (hc : c ≤ 32) (e : ra_S rk dm am rk' dm' am' s) : ra_H rk' dm' am' s a :=
  ⟨e.1.trans h.1, fun i hi => (e.2.1 i (Nat.lt_of_lt_of_le hi w.1)).trans (h.2.1 i hi),
    fun i hi => (e.2.2 i (Nat.lt_of_lt_of_le hi (Nat.le_trans w.2.2 hc))).trans (h.2.2 i hi)⟩
theorem ra_S_r {rk dm am : Nat → Int32} {s : Nat} : ra_S rk dm am rk dm am s := ⟨rfl, fun _ _ => rfl, fun _ _ => rfl⟩
theorem ra_S_t {rk dm am rk' dm' am' rk2 dm2 am2 : Nat → Int32} {s : Nat} (h : ra_S rk dm am rk' dm' am' s) (g : ra_S rk' dm' am' rk2 dm2 am2 s) : ra_S rk dm am rk2 dm2 am2 s :=
  ⟨g.1.trans h.1, fun i hi => (g.2.1 i hi).trans (h.2.1 i hi), fun i hi => (g.2.2 i hi).trans (h.2.2 i hi)⟩

/-! cells -/
def ra_size (a : ra_A) (f : Nat) : Nat := ra_prod a.2.1 f (a.1 - f)
def ra_cell (a : ra_A) (f p : Nat) : ra_A := (a.1 - f, fun i => a.2.1 (f + i), fun i => a.2.2 (p * ra_size a f + i))
def ra_fc (fl : Int32) (a : ra_A) (f : Nat) : ra_A := (a.1 - f, fun i => a.2.1 (f + i), fun _ => fl)
theorem ra_cell_cnt (a : ra_A) (f p : Nat) : ra_cnt (ra_cell a f p) = ra_size a f := ra_prod_congr _ (fun i _ => by rw [Nat.zero_add]; rfl)
theorem ra_fc_cnt (fl : Int32) (a : ra_A) (f : Nat) : ra_cnt (ra_fc fl a f) = ra_size a f := ra_prod_congr _ (fun i _ => by rw [Nat.zero_add]; rfl)
theorem ra_cnt_f {a : ra_A} {f : Nat} (h : f ≤ a.1) : ra_cnt a = ra_prod a.2.1 0 f * ra_size a f := by
  have e := ra_prod_add a.2.1 0 f (a.1 - f)
  rw [Nat.add_sub_cancel' h, Nat.zero_add] at e
  exact e
theorem ra_cell_in {a : ra_A} {f p i : Nat} (h : f ≤ a.1) (hp : p < ra_prod a.2.1 0 f) (hi : i < ra_size a f) : p * ra_size a f + i < ra_cnt a := by
  rw [ra_cnt_f h]
  calc p * ra_size a f + i < p * ra_size a f + ra_size a f := by omega
    _ = (p + 1) * ra_size a f := by rw [Nat.succ_mul]
    _ ≤ ra_prod a.2.1 0 f * ra_size a f := Nat.mul_le_mul_right _ hp
theorem ra_cell_W {c : Nat} {a : ra_A} {f p : Nat} (w : ra_W c a) (h : f ≤ a.1) (hp : p < ra_prod a.2.1 0 f) : ra_W c (ra_cell a f p) := by
  refine ⟨Nat.le_trans (Nat.sub_le _ _) w.1, fun i hi => w.2.1 (f + i) (by have : i < a.1 - f := hi; omega), ?_⟩
  rw [ra_cell_cnt]
  have e := w.2.2
  rw [ra_cnt_f h] at e
  exact Nat.le_trans (Nat.le_mul_of_pos_left _ (Nat.lt_of_le_of_lt (Nat.zero_le _) hp)) e
theorem ra_fc_W {c : Nat} {fl : Int32} {a : ra_A} {f : Nat} (w : ra_W c a) (h : ra_size a f ≤ c) : ra_W c (ra_fc fl a f) :=
  ⟨Nat.le_trans (Nat.sub_le _ _) w.1, fun i hi => w.2.1 (f + i) (by have : i < a.1 - f := hi; omega), by rw [ra_fc_cnt]; exact h⟩

/-! verbs -/
def ra_dL (v : Nat) : Nat := if v = 10 then 1 else 0
def ra_dR (v : Nat) : Nat := if v ≤ 1 ∨ (6 ≤ v ∧ v ≤ 9) then 0 else 3
def ra_len (y : ra_A) : Nat := if y.1 = 0 then 1 else y.2.1 0
def ra_it (y : ra_A) : Nat := ra_prod y.2.1 1 (y.1 - 1)
def ra_sum (f : Nat → Int32) : Nat → Int32
  | 0 => 0
  | n + 1 => ra_sum f n + f n
def ra_sc (z : Int32) : ra_A := (0, fun _ => 0, fun _ => z)
def ra_abs (x : Int32) : Nat := x.toInt.natAbs
/-- some i < n has p -/
def ra_any (p : Nat → Bool) : Nat → Bool
  | 0 => false
  | n + 1 => ra_any p n || p n
theorem ra_any_t {p : Nat → Bool} : ∀ n i, i < n → p i = true → ra_any p n = true := by
  intro n
  induction n with
  | zero => intro i hi; omega
  | succ n ih =>
    intro i hi h
    rw [ra_any]
    by_cases e : i = n
    · subst e; rw [h]; exact Bool.or_true _
    · rw [ih i (by omega) h]; exact Bool.true_or _
theorem ra_any_f {p : Nat → Bool} : ∀ n, (∀ i, i < n → p i = false) → ra_any p n = false := by
  intro n
  induction n with
  | zero => intro _; rfl
  | succ n ih => intro h; rw [ra_any, ih fun i hi => h i (by omega), h n (by omega)]; rfl
theorem ra_any_n {p : Nat → Bool} {n : Nat} (h : ra_any p n = false) : ∀ i, i < n → p i = false := fun i hi => by
  cases e : p i with
  | false => rfl
  | true => rw [ra_any_t n i hi e] at h; exact absurd h (by decide)
def ra_neg (x : ra_A) : Bool := ra_any (fun i => decide (x.2.2 i < 0)) (ra_cnt x)
def ra_big (c : Nat) (x : ra_A) : Bool := ra_any (fun i => decide (nI c < x.2.2 i)) (ra_cnt x)
/-- the error of P, 0 if there is none -/
def ra_PE (c : Nat) (v : Nat) (x y : ra_A) : Int32 :=
  if v = 1 then (if y.2.2 0 < 0 then -2 else if nI c < y.2.2 0 then -4 else 0)
  else if v = 4 then (if c < ra_it y then -4 else 0)
  else if v = 10 then
    (if ra_neg x = true then -2
     else if 3 < ra_cnt x ∨ ra_big c x = true ∨ c < ra_prod (fun i => (x.2.2 i).toNatClampNeg) 0 (ra_cnt x) then -4 else 0)
  else if v = 11 then (if c < ra_abs (x.2.2 0) ∨ c < ra_abs (x.2.2 0) * ra_it y then -4 else 0)
  else if v = 12 then (if (x.2.2 0).toInt < -(ra_len y : Int) ∨ (ra_len y : Int) ≤ (x.2.2 0).toInt then -3 else 0)
  else 0
/-- the item that TAKE puts at k: ra_len y if there is none -/
def ra_src (x0 : Int32) (len k : Nat) : Nat :=
  if x0 < 0 then (if ra_abs x0 ≤ len + k then len + k - ra_abs x0 else len) else k
def ra_idx (x0 : Int32) (len : Nat) : Nat := if x0 < 0 then len - ra_abs x0 else ra_abs x0
/-- the result of P where it has no error -/
def ra_PA (fl : Int32) (v : Nat) (x y : ra_A) : ra_A :=
  if v = 0 then ra_sc (-(y.2.2 0))
  else if v = 1 then (1, fun _ => (y.2.2 0).toNatClampNeg, fun i => nI i)
  else if v = 2 then (1, fun _ => y.1, fun i => nI (y.2.1 i))
  else if v = 3 then (y.1, y.2.1, fun n => y.2.2 ((ra_len y - 1 - n / ra_it y) * ra_it y + n % ra_it y))
  else if v = 4 then (y.1 - 1, fun i => y.2.1 (1 + i), fun i => ra_sum (fun j => y.2.2 (j * ra_it y + i)) (ra_len y))
  else if v = 5 then (1, fun _ => ra_cnt y, y.2.2)
  else if v = 6 then ra_sc (x.2.2 0 + y.2.2 0)
  else if v = 7 then ra_sc (x.2.2 0 - y.2.2 0)
  else if v = 8 then ra_sc (x.2.2 0 * y.2.2 0)
  else if v = 9 then ra_sc (if y.2.2 0 < x.2.2 0 then x.2.2 0 else y.2.2 0)
  else if v = 10 then (ra_cnt x, fun i => (x.2.2 i).toNatClampNeg, fun i => if 0 < ra_cnt y then y.2.2 (i % ra_cnt y) else fl)
  else if v = 11 then (if y.1 = 0 then 1 else y.1, fun i => if i = 0 then ra_abs (x.2.2 0) else y.2.1 i,
    fun n => if ra_src (x.2.2 0) (ra_len y) (n / ra_it y) < ra_len y then y.2.2 (ra_src (x.2.2 0) (ra_len y) (n / ra_it y) * ra_it y + n % ra_it y) else fl)
  else (y.1 - 1, fun i => y.2.1 (1 + i), fun i => y.2.2 (ra_idx (x.2.2 0) (ra_len y) * ra_it y + i))
/-- the arguments of P: their ranks fit the declared ones -/
def ra_fit (v : Nat) (x y : ra_A) : Prop := y.1 ≤ ra_dR v ∧ (6 ≤ v → x.1 ≤ ra_dL v)

/-! A, over what is done in each cell: its error E, its result R -/
def ra_first (f : Nat → Int32) : Nat → Int32
  | 0 => 0
  | n + 1 => if ra_first f n = 0 then f n else ra_first f n
def ra_max (f : Nat → Nat) : Nat → Nat
  | 0 => 0
  | n + 1 => if ra_max f n < f n then f n else ra_max f n
/-- axis j of the shape lifted to three axes -/
def ra_lift (a : ra_A) (j : Nat) : Nat := if j < 3 - a.1 then 1 else a.2.1 (j - (3 - a.1))
def ra_fr (fx fy : Nat) : Nat := if fy < fx then fx else fy
def ra_F (x y : ra_A) (fx fy : Nat) : Nat → Nat := if fy < fx then x.2.1 else y.2.1
def ra_pos (x y : ra_A) (fx fy : Nat) : Nat := ra_prod (ra_F x y fx fy) 0 (ra_fr fx fy)
def ra_num (x y : ra_A) (fx fy g q : Nat) : Nat := q / ra_prod (ra_F x y fx fy) g (ra_fr fx fy - g)
def ra_cx (x y : ra_A) (fx fy q : Nat) : ra_A := ra_cell x fx (ra_num x y fx fy fx q)
def ra_cy (x y : ra_A) (fx fy q : Nat) : ra_A := ra_cell y fy (ra_num x y fx fy fy q)
/-- the frames agree -/
def ra_ag (x y : ra_A) (fx fy : Nat) : Prop := ∀ i, i < fx → i < fy → x.2.1 i = y.2.1 i
/-- the agreement, decided axis by axis -/
def ra_dis (x y : ra_A) (n : Nat) : Bool := ra_any (fun i => decide (x.2.1 i ≠ y.2.1 i)) n
/-- the shape of a cell's result where the frame has no position -/
def ra_S0 (c : Nat) (fl : Int32) (E : ra_A → ra_A → Int32) (R : ra_A → ra_A → ra_A) (x y : ra_A) (fx fy : Nat) : ra_A :=
  if c < ra_size x fx ∨ c < ra_size y fy then ra_sc 0
  else if E (ra_fc fl x fx) (ra_fc fl y fy) = 0 then R (ra_fc fl x fx) (ra_fc fl y fy) else ra_sc 0
def ra_K (R : ra_A → ra_A → ra_A) (x y : ra_A) (fx fy n : Nat) : Nat := ra_max (fun q => (R (ra_cx x y fx fy q) (ra_cy x y fx fy q)).1) n
def ra_w (R : ra_A → ra_A → ra_A) (x y : ra_A) (fx fy n j : Nat) : Nat := ra_max (fun q => ra_lift (R (ra_cx x y fx fy q) (ra_cy x y fx fy q)) j) n
def ra_AE (c : Nat) (fl : Int32) (E : ra_A → ra_A → Int32) (R : ra_A → ra_A → ra_A) (x y : ra_A) (fx fy : Nat) : Int32 :=
  if ra_dis x y (if fx < fy then fx else fy) = true then -1
  else if ra_pos x y fx fy = 0 then (if 3 < ra_fr fx fy + (ra_S0 c fl E R x y fx fy).1 then -4 else 0)
  else if ra_first (fun q => E (ra_cx x y fx fy q) (ra_cy x y fx fy q)) (ra_pos x y fx fy) ≠ 0 then
    ra_first (fun q => E (ra_cx x y fx fy q) (ra_cy x y fx fy q)) (ra_pos x y fx fy)
  else if 3 < ra_fr fx fy + ra_K R x y fx fy (ra_pos x y fx fy) ∨
    c < ra_pos x y fx fy * (ra_w R x y fx fy (ra_pos x y fx fy) 0 * ra_w R x y fx fy (ra_pos x y fx fy) 1 * ra_w R x y fx fy (ra_pos x y fx fy) 2) then -4 else 0
/-- the atom number t of a cell's part, M = w0 w1 w2 -/
def ra_pl (fl : Int32) (w1 w2 : Nat) (z : ra_A) (t : Nat) : Int32 :=
  if t / (w1 * w2) < ra_lift z 0 ∧ t / w2 % w1 < ra_lift z 1 ∧ t % w2 < ra_lift z 2
  then z.2.2 ((t / (w1 * w2) * ra_lift z 1 + t / w2 % w1) * ra_lift z 2 + t % w2) else fl
def ra_AA (c : Nat) (fl : Int32) (E : ra_A → ra_A → Int32) (R : ra_A → ra_A → ra_A) (x y : ra_A) (fx fy : Nat) : ra_A :=
  if ra_pos x y fx fy = 0 then
    (ra_fr fx fy + (ra_S0 c fl E R x y fx fy).1, fun i => if i < ra_fr fx fy then ra_F x y fx fy i else (ra_S0 c fl E R x y fx fy).2.1 (i - ra_fr fx fy), fun _ => 0)
  else
    (ra_fr fx fy + ra_K R x y fx fy (ra_pos x y fx fy),
     fun i => if i < ra_fr fx fy then ra_F x y fx fy i else ra_w R x y fx fy (ra_pos x y fx fy) (i - ra_fr fx fy + (3 - ra_K R x y fx fy (ra_pos x y fx fy))),
     fun n => ra_pl fl (ra_w R x y fx fy (ra_pos x y fx fy) 1) (ra_w R x y fx fy (ra_pos x y fx fy) 2)
       (R (ra_cx x y fx fy (n / (ra_w R x y fx fy (ra_pos x y fx fy) 0 * ra_w R x y fx fy (ra_pos x y fx fy) 1 * ra_w R x y fx fy (ra_pos x y fx fy) 2)))
          (ra_cy x y fx fy (n / (ra_w R x y fx fy (ra_pos x y fx fy) 0 * ra_w R x y fx fy (ra_pos x y fx fy) 1 * ra_w R x y fx fy (ra_pos x y fx fy) 2))))
       (n % (ra_w R x y fx fy (ra_pos x y fx fy) 0 * ra_w R x y fx fy (ra_pos x y fx fy) 1 * ra_w R x y fx fy (ra_pos x y fx fy) 2)))
/-- the effective cell rank -/
def ra_eff (v : Int32) (a : Nat) : Nat := if v < 0 then ((a : Int) + v.toInt).toNat else if v < nI a then v.toNatClampNeg else a
def ra_BE (c : Nat) (fl : Int32) (v : Nat) (x y : ra_A) : Int32 :=
  ra_AE c fl (ra_PE c v) (ra_PA fl v) x y (x.1 - ra_eff (nI (ra_dL v)) x.1) (y.1 - ra_eff (nI (ra_dR v)) y.1)
def ra_BA (c : Nat) (fl : Int32) (v : Nat) (x y : ra_A) : ra_A :=
  ra_AA c fl (ra_PE c v) (ra_PA fl v) x y (x.1 - ra_eff (nI (ra_dL v)) x.1) (y.1 - ra_eff (nI (ra_dR v)) y.1)
/-- the answer of a call: its error, its result -/
def ra_OE (c : Nat) (fl : Int32) (v : Nat) (x y : ra_A) (l r : Int32) : Int32 :=
  ra_AE c fl (ra_BE c fl v) (ra_BA c fl v) x y (x.1 - ra_eff l x.1) (y.1 - ra_eff r y.1)
def ra_OA (c : Nat) (fl : Int32) (v : Nat) (x y : ra_A) (l r : Int32) : ra_A :=
  ra_AA c fl (ra_BE c fl v) (ra_BA c fl v) x y (x.1 - ra_eff l x.1) (y.1 - ra_eff r y.1)

/-! what is to be shown of it (statements, drafts):
  ra_P_W   c >= 8, x y within the limits, fit, PE = 0 gives PA within the limits
  ra_A_W   E R keep the limits: AE = 0 gives AA within the limits
  ra_A_q   E, R on cells alike (ra_q) give the same: AE the same, AA alike (only if needed)
  ra_A_1   fx = fy = 0: AE = E x y, and where that is 0 AA alike R x y   (so B where the ranks fit is P)
  ra_mono  for v < 6 nothing depends on x but its rank 0
  ra_K_w   0 < n: ra_w j = 1 for j < 3 - K; the reference's maxima over shapes lifted to K are ra_w (i + (3 - K))
  ra_pl_3  the reference's taking apart of u by remainders over K axes is ra_pl
-/
