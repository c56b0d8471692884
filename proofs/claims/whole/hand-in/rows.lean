section
/-! pasted from the kit's rows -/
theorem pk_us {f : Nat → Int32} {k : Nat} {x : Int32} : upd f k x k = x := if_pos rfl
theorem pk_un {f : Nat → Int32} {k j : Nat} {x : Int32} (h : j ≠ k) : upd f k x j = f j := if_neg h
theorem pk_sub {a b : Nat} (h : b ≤ a) : nI a - nI b = nI (a - b) := by
  obtain ⟨c, rfl⟩ : ∃ c, a = c + b := ⟨a - b, by omega⟩
  rw [← nI_add, Int32.add_sub_cancel, Nat.add_sub_cancel]
theorem pk_m1 (n : Nat) : nI (n + 1) + (-1) = nI n := by
  rw [← nI_1, Int32.add_assoc, show (1 : Int32) + (-1) = 0 from rfl, Int32.add_zero]
theorem pk_mul (a b : Nat) : nI a * nI b = nI (a * b) := (Int32.ofNat_mul a b).symm
theorem pk_div {a d : Nat} (ha : a < 2 ^ 31) (h0 : 0 < d) (hd : d < 2 ^ 31) : nI a / nI d = nI (a / d) := by
  apply Int32.toInt_inj.mp
  rw [lg_idiv_nonneg (by rw [nI_toInt ha]; omega) (by rw [nI_toInt hd]; omega), nI_toInt ha, nI_toInt hd, nI_toInt (Nat.lt_of_le_of_lt (Nat.div_le_self a d) ha)]
  first | rfl | exact (Int.natCast_ediv _ _).symm
theorem pk_rem {a d : Nat} (ha : a < 2 ^ 31) (h0 : 0 < d) (hd : d < 2 ^ 31) : nI a - nI a / nI d * nI d = nI (a % d) := by
  rw [pk_div ha h0 hd, pk_mul, pk_sub (Nat.div_mul_le_self a d)]
  exact congrArg nI (by have := Nat.div_add_mod' a d; omega)
theorem pk_sub_toInt {a b : Nat} (ha : a < 2 ^ 30) (hb : b < 2 ^ 30) : (nI a - nI b).toInt = (a : Int) - b := by
  rw [Int32.toInt_sub, nI_toInt (by omega), nI_toInt (by omega)]
  exact Int.bmod_eq_of_le (by omega) (by omega)
theorem pk_sneg {a b : Nat} (hb : b < 2 ^ 30) (h : a < b) : nI a - nI b < 0 := by
  rw [Int32.lt_iff_toInt_lt, pk_sub_toInt (by omega) hb, show (0 : Int32).toInt = 0 from by decide]
  omega
theorem pk_ix (x : Int32) {n : Nat} (hn : n < 2 ^ 31) : x < 0 ∨ nI n ≤ x ∨ ∃ j : Nat, j < n ∧ x = nI j := by
  by_cases h : x < 0
  · exact Or.inl h
  · obtain ⟨j, hj, rfl⟩ := nI_of h
    by_cases h2 : j < n
    · exact Or.inr (Or.inr ⟨j, h2, rfl⟩)
    · exact Or.inr (Or.inl (nI_le (by omega) hj))
theorem pk_le {x y : Int32} {A B : Prop} (a b : Nat) (f : a ≤ b → A) (g : b < a → B) (hx : x = nI a := by rfl) (hy : y = nI b := by rfl) (ha : a < 2 ^ 31 := by omega) (hb : b < 2 ^ 31 := by omega) : (x ≤ y → A) ∧ (¬ x ≤ y → B) := by
  subst hx hy
  rw [nI_leI ha hb]
  exact ⟨f, fun z => g (by omega)⟩
theorem pk_lt {x y : Int32} {A B : Prop} (a b : Nat) (f : a < b → A) (g : b ≤ a → B) (hx : x = nI a := by rfl) (hy : y = nI b := by rfl) (ha : a < 2 ^ 31 := by omega) (hb : b < 2 ^ 31 := by omega) : (x < y → A) ∧ (¬ x < y → B) := by
  subst hx hy
  rw [nI_ltI ha hb]
  exact ⟨f, fun z => g (by omega)⟩
theorem pk_eq {x y : Int32} {A B : Prop} (a b : Nat) (f : a = b → A) (g : a ≠ b → B) (hx : x = nI a := by rfl) (hy : y = nI b := by rfl) (ha : a < 2 ^ 31 := by omega) (hb : b < 2 ^ 31 := by omega) : (x = y → A) ∧ (¬ x = y → B) := by
  subst hx hy
  rw [nI_eq ha hb]
  exact ⟨f, g⟩
theorem pk_in {x : Int32} (n N : Nat) (h : n < N) (hx : x = nI n := by rfl) (hN : N < 2 ^ 31 := by omega) : vp_in x N := by
  subst hx
  exact vp_in_nI h hN
theorem pk_cl {x : Int32} (n : Nat) (hx : x = nI n := by rfl) (h : n < 2 ^ 31 := by omega) : x.toNatClampNeg = n := by
  subst hx
  exact nI_clamp h
theorem sb_negT {w : Nat} (h : w < 2 ^ 31) : (-nI w).toInt = -(w : Int) := by
  rw [Int32.toInt_neg, nI_toInt h]
  exact Int.bmod_eq_of_le (by omega) (by omega)
end
section
/-! DRAFT, never compiled (rounds 1 and 2 build nothing). The pure picture of RankAgreement: arrays, P, A, inner and outer. -/
/-- a pure array: rank, axis lengths, atoms in row-major order -/
abbrev ra_A : Type := Nat × (Nat → Nat) × (Nat → Int32)
/-- the product of d f .. d (f + n - 1) -/
def ra_prod (d : Nat → Nat) (f : Nat) : Nat → Nat
  | 0 => 1
  | n + 1 => ra_prod d f n * d (f + n)
def ra_cnt (a : ra_A) : Nat := ra_prod a.2.1 0 a.1
theorem ra_prod_add (d : Nat → Nat) (f m : Nat) : ∀ n, ra_prod d f (m + n) = ra_prod d f m * ra_prod d (f + m) n := by
  intro n
  induction n with
  | zero => simp [ra_prod]
  | succ n ih => rw [← Nat.add_assoc, ra_prod, ra_prod, ih, Nat.mul_assoc, Nat.add_assoc]
theorem ra_prod_congr {d d' : Nat → Nat} {f f' : Nat} : ∀ n, (∀ i, i < n → d (f + i) = d' (f' + i)) → ra_prod d f n = ra_prod d' f' n := by
  intro n
  induction n with
  | zero => intro _; rfl
  | succ n ih => intro h; rw [ra_prod, ra_prod, ih (fun i hi => h i (by omega)), h n (by omega)]
theorem ra_prod_le {d : Nat → Nat} {f b : Nat} : ∀ n, (∀ i, i < n → d (f + i) ≤ b) → ra_prod d f n ≤ b ^ n := by
  intro n
  induction n with
  | zero => intro _; exact Nat.le_refl _
  | succ n ih => intro h; rw [ra_prod, Nat.pow_succ]; exact Nat.mul_le_mul (ih fun i hi => h i (by omega)) (h n (by omega))
theorem ra_p32 {n : Nat} (h : n ≤ 3) : 32 ^ n ≤ 32768 := Nat.le_trans (Nat.pow_le_pow_right (by decide) h) (by decide)
theorem ra_prod_pos {d : Nat → Nat} {f : Nat} : ∀ n, 0 < ra_prod d f n → ∀ i, i < n → 0 < d (f + i) := by
  intro n
  induction n with
  | zero => intro _ i hi; omega
  | succ n ih =>
    intro h i hi
    rw [ra_prod] at h
    have h1 := Nat.pos_of_mul_pos_left h
    have h2 := Nat.pos_of_mul_pos_right h
    by_cases e : i = n
    · subst e; first | exact h1 | exact h2
    · exact ih (by first | exact h1 | exact h2) i (by omega)
theorem ra_prod_pos' {d : Nat → Nat} {f : Nat} : ∀ n, (∀ i, i < n → 0 < d (f + i)) → 0 < ra_prod d f n := by
  intro n
  induction n with
  | zero => intro _; exact Nat.one_pos
  | succ n ih => intro h; rw [ra_prod]; exact Nat.mul_pos (ih fun i hi => h i (by omega)) (h n (by omega))
theorem ra_prod_0 {d : Nat → Nat} {f : Nat} : ∀ n i, i < n → d (f + i) = 0 → ra_prod d f n = 0 := by
  intro n i hi h
  cases Nat.eq_zero_or_pos (ra_prod d f n) with
  | inl z => exact z
  | inr z => exact absurd (ra_prod_pos n z i hi) (by omega)
/-- arrays alike below rank and count -/
def ra_q (a b : ra_A) : Prop := a.1 = b.1 ∧ (∀ i, i < a.1 → a.2.1 i = b.2.1 i) ∧ (∀ i, i < ra_cnt a → a.2.2 i = b.2.2 i)
/-- the LIMITS -/
def ra_W (c : Nat) (a : ra_A) : Prop := a.1 ≤ 3 ∧ (∀ i, i < a.1 → a.2.1 i ≤ c) ∧ ra_cnt a ≤ c
/-- slot s holds a: the layout is the same on both sides -/
def ra_H (rk dm am : Nat → Int32) (s : Nat) (a : ra_A) : Prop :=
  rk s = nI a.1 ∧ (∀ i, i < a.1 → dm (s * 3 + i) = nI (a.2.1 i)) ∧ (∀ i, i < ra_cnt a → am (s * 32 + i) = a.2.2 i)
/-- slot s is as it was -/
def ra_S (rk dm am rk' dm' am' : Nat → Int32) (s : Nat) : Prop :=
  rk' s = rk s ∧ (∀ i, i < 3 → dm' (s * 3 + i) = dm (s * 3 + i)) ∧ (∀ i, i < 32 → am' (s * 32 + i) = am (s * 32 + i))
theorem ra_cnt_q {a b : ra_A} (h : ra_q a b) : ra_cnt a = ra_cnt b := by
  unfold ra_cnt
  rw [← h.1]
  exact ra_prod_congr _ (fun i hi => by rw [Nat.zero_add]; exact h.2.1 i hi)
theorem ra_H_q {rk dm am : Nat → Int32} {s : Nat} {a b : ra_A} (h : ra_H rk dm am s a) (e : ra_q a b) : ra_H rk dm am s b :=
  ⟨h.1.trans (by rw [e.1]), fun i hi => (h.2.1 i (by rw [e.1]; exact hi)).trans (by rw [e.2.1 i (by rw [e.1]; exact hi)]),
    fun i hi => (h.2.2 i (by rw [ra_cnt_q e]; exact hi)).trans (e.2.2 i (by rw [ra_cnt_q e]; exact hi))⟩
theorem ra_H_S {rk dm am rk' dm' am' : Nat → Int32} {s c : Nat} {a : ra_A} (h : ra_H rk dm am s a) (w : ra_W c a) (hc : c ≤ 32) (e : ra_S rk dm am rk' dm' am' s) : ra_H rk' dm' am' s a :=
  ⟨e.1.trans h.1, fun i hi => (e.2.1 i (Nat.lt_of_lt_of_le hi w.1)).trans (h.2.1 i hi),
    fun i hi => (e.2.2 i (Nat.lt_of_lt_of_le hi (Nat.le_trans w.2.2 hc))).trans (h.2.2 i hi)⟩
theorem ra_S_r {rk dm am : Nat → Int32} {s : Nat} : ra_S rk dm am rk dm am s := ⟨rfl, fun _ _ => rfl, fun _ _ => rfl⟩
theorem ra_S_t {rk dm am rk' dm' am' rk2 dm2 am2 : Nat → Int32} {s : Nat} (h : ra_S rk dm am rk' dm' am' s) (g : ra_S rk' dm' am' rk2 dm2 am2 s) : ra_S rk dm am rk2 dm2 am2 s :=
  ⟨g.1.trans h.1, fun i hi => (g.2.1 i hi).trans (h.2.1 i hi), fun i hi => (g.2.2 i hi).trans (h.2.2 i hi)⟩

/-! cells -/
def ra_size (a : ra_A) (f : Nat) : Nat := ra_prod a.2.1 f (a.1 - f)
def ra_cell (a : ra_A) (f p : Nat) : ra_A := (a.1 - f, fun i => a.2.1 (f + i), fun i => a.2.2 (p * ra_size a f + i))
def ra_fc (fl : Int32) (a : ra_A) (f : Nat) : ra_A := (a.1 - f, fun i => a.2.1 (f + i), fun _ => fl)
theorem ra_cell_cnt (a : ra_A) (f p : Nat) : ra_cnt (ra_cell a f p) = ra_size a f := ra_prod_congr _ (fun i _ => by rw [Nat.zero_add]; rfl)
theorem ra_fc_cnt (fl : Int32) (a : ra_A) (f : Nat) : ra_cnt (ra_fc fl a f) = ra_size a f := ra_prod_congr _ (fun i _ => by rw [Nat.zero_add]; rfl)
theorem ra_cnt_f {a : ra_A} {f : Nat} (h : f ≤ a.1) : ra_cnt a = ra_prod a.2.1 0 f * ra_size a f := by
  have e := ra_prod_add a.2.1 0 f (a.1 - f)
  rw [Nat.add_sub_cancel' h, Nat.zero_add] at e
  exact e
theorem ra_cell_in {a : ra_A} {f p i : Nat} (h : f ≤ a.1) (hp : p < ra_prod a.2.1 0 f) (hi : i < ra_size a f) : p * ra_size a f + i < ra_cnt a := by
  rw [ra_cnt_f h]
  calc p * ra_size a f + i < p * ra_size a f + ra_size a f := by omega
    _ = (p + 1) * ra_size a f := by rw [Nat.succ_mul]
    _ ≤ ra_prod a.2.1 0 f * ra_size a f := Nat.mul_le_mul_right _ hp
theorem ra_cell_W {c : Nat} {a : ra_A} {f p : Nat} (w : ra_W c a) (h : f ≤ a.1) (hp : p < ra_prod a.2.1 0 f) : ra_W c (ra_cell a f p) := by
  refine ⟨Nat.le_trans (Nat.sub_le _ _) w.1, fun i hi => w.2.1 (f + i) (by have : i < a.1 - f := hi; omega), ?_⟩
  rw [ra_cell_cnt]
  have e := w.2.2
  rw [ra_cnt_f h] at e
  exact Nat.le_trans (Nat.le_mul_of_pos_left _ (Nat.lt_of_le_of_lt (Nat.zero_le _) hp)) e
theorem ra_fc_W {c : Nat} {fl : Int32} {a : ra_A} {f : Nat} (w : ra_W c a) (h : ra_size a f ≤ c) : ra_W c (ra_fc fl a f) :=
  ⟨Nat.le_trans (Nat.sub_le _ _) w.1, fun i hi => w.2.1 (f + i) (by have : i < a.1 - f := hi; omega), by rw [ra_fc_cnt]; exact h⟩

/-! verbs -/
def ra_dL (v : Nat) : Nat := if v = 10 then 1 else 0
def ra_dR (v : Nat) : Nat := if v ≤ 1 ∨ (6 ≤ v ∧ v ≤ 9) then 0 else 3
def ra_len (y : ra_A) : Nat := if y.1 = 0 then 1 else y.2.1 0
def ra_it (y : ra_A) : Nat := ra_prod y.2.1 1 (y.1 - 1)
def ra_sum (f : Nat → Int32) : Nat → Int32
  | 0 => 0
  | n + 1 => ra_sum f n + f n
def ra_sc (z : Int32) : ra_A := (0, fun _ => 0, fun _ => z)
def ra_abs (x : Int32) : Nat := x.toInt.natAbs
/-- some i < n has p -/
def ra_any (p : Nat → Bool) : Nat → Bool
  | 0 => false
  | n + 1 => ra_any p n || p n
theorem ra_any_t {p : Nat → Bool} : ∀ n i, i < n → p i = true → ra_any p n = true := by
  intro n
  induction n with
  | zero => intro i hi; omega
  | succ n ih =>
    intro i hi h
    rw [ra_any]
    by_cases e : i = n
    · subst e; rw [h]; exact Bool.or_true _
    · rw [ih i (by omega) h]; exact Bool.true_or _
theorem ra_any_f {p : Nat → Bool} : ∀ n, (∀ i, i < n → p i = false) → ra_any p n = false := by
  intro n
  induction n with
  | zero => intro _; rfl
  | succ n ih => intro h; rw [ra_any, ih fun i hi => h i (by omega), h n (by omega)]; rfl
theorem ra_any_n {p : Nat → Bool} {n : Nat} (h : ra_any p n = false) : ∀ i, i < n → p i = false := fun i hi => by
  cases e : p i with
  | false => rfl
  | true => rw [ra_any_t n i hi e] at h; exact absurd h (by decide)
def ra_neg (x : ra_A) : Bool := ra_any (fun i => decide (x.2.2 i < 0)) (ra_cnt x)
def ra_big (c : Nat) (x : ra_A) : Bool := ra_any (fun i => decide (nI c < x.2.2 i)) (ra_cnt x)
/-- the error of P, 0 if there is none -/
def ra_PE (c : Nat) (v : Nat) (x y : ra_A) : Int32 :=
  if v = 1 then (if y.2.2 0 < 0 then -2 else if nI c < y.2.2 0 then -4 else 0)
  else if v = 4 then (if c < ra_it y then -4 else 0)
  else if v = 10 then
    (if ra_neg x = true then -2
     else if 3 < ra_cnt x ∨ ra_big c x = true ∨ c < ra_prod (fun i => (x.2.2 i).toNatClampNeg) 0 (ra_cnt x) then -4 else 0)
  else if v = 11 then (if c < ra_abs (x.2.2 0) ∨ c < ra_abs (x.2.2 0) * ra_it y then -4 else 0)
  else if v = 12 then (if (x.2.2 0).toInt < -(ra_len y : Int) ∨ (ra_len y : Int) ≤ (x.2.2 0).toInt then -3 else 0)
  else 0
/-- the item that TAKE puts at k: ra_len y if there is none -/
def ra_src (x0 : Int32) (len k : Nat) : Nat :=
  if x0 < 0 then (if ra_abs x0 ≤ len + k then len + k - ra_abs x0 else len) else k
def ra_idx (x0 : Int32) (len : Nat) : Nat := if x0 < 0 then len - ra_abs x0 else ra_abs x0
/-- the result of P where it has no error -/
def ra_PA (fl : Int32) (v : Nat) (x y : ra_A) : ra_A :=
  if v = 0 then ra_sc (-(y.2.2 0))
  else if v = 1 then (1, fun _ => (y.2.2 0).toNatClampNeg, fun i => nI i)
  else if v = 2 then (1, fun _ => y.1, fun i => nI (y.2.1 i))
  else if v = 3 then (y.1, y.2.1, fun n => y.2.2 ((ra_len y - 1 - n / ra_it y) * ra_it y + n % ra_it y))
  else if v = 4 then (y.1 - 1, fun i => y.2.1 (1 + i), fun i => ra_sum (fun j => y.2.2 (j * ra_it y + i)) (ra_len y))
  else if v = 5 then (1, fun _ => ra_cnt y, y.2.2)
  else if v = 6 then ra_sc (x.2.2 0 + y.2.2 0)
  else if v = 7 then ra_sc (x.2.2 0 - y.2.2 0)
  else if v = 8 then ra_sc (x.2.2 0 * y.2.2 0)
  else if v = 9 then ra_sc (if y.2.2 0 < x.2.2 0 then x.2.2 0 else y.2.2 0)
  else if v = 10 then (ra_cnt x, fun i => (x.2.2 i).toNatClampNeg, fun i => if 0 < ra_cnt y then y.2.2 (i % ra_cnt y) else fl)
  else if v = 11 then (if y.1 = 0 then 1 else y.1, fun i => if i = 0 then ra_abs (x.2.2 0) else y.2.1 i,
    fun n => if ra_src (x.2.2 0) (ra_len y) (n / ra_it y) < ra_len y then y.2.2 (ra_src (x.2.2 0) (ra_len y) (n / ra_it y) * ra_it y + n % ra_it y) else fl)
  else (y.1 - 1, fun i => y.2.1 (1 + i), fun i => y.2.2 (ra_idx (x.2.2 0) (ra_len y) * ra_it y + i))
/-- the arguments of P: their ranks fit the declared ones -/
def ra_fit (v : Nat) (x y : ra_A) : Prop := y.1 ≤ ra_dR v ∧ (6 ≤ v → x.1 ≤ ra_dL v)

/-! A, over what is done in each cell: its error E, its result R -/
def ra_first (f : Nat → Int32) : Nat → Int32
  | 0 => 0
  | n + 1 => if ra_first f n = 0 then f n else ra_first f n
def ra_max (f : Nat → Nat) : Nat → Nat
  | 0 => 0
  | n + 1 => if ra_max f n < f n then f n else ra_max f n
/-- axis j of the shape lifted to three axes -/
def ra_lift (a : ra_A) (j : Nat) : Nat := if j < 3 - a.1 then 1 else a.2.1 (j - (3 - a.1))
def ra_fr (fx fy : Nat) : Nat := if fy < fx then fx else fy
def ra_F (x y : ra_A) (fx fy : Nat) : Nat → Nat := if fy < fx then x.2.1 else y.2.1
def ra_pos (x y : ra_A) (fx fy : Nat) : Nat := ra_prod (ra_F x y fx fy) 0 (ra_fr fx fy)
def ra_num (x y : ra_A) (fx fy g q : Nat) : Nat := q / ra_prod (ra_F x y fx fy) g (ra_fr fx fy - g)
def ra_cx (x y : ra_A) (fx fy q : Nat) : ra_A := ra_cell x fx (ra_num x y fx fy fx q)
def ra_cy (x y : ra_A) (fx fy q : Nat) : ra_A := ra_cell y fy (ra_num x y fx fy fy q)
/-- the frames agree -/
def ra_ag (x y : ra_A) (fx fy : Nat) : Prop := ∀ i, i < fx → i < fy → x.2.1 i = y.2.1 i
/-- the agreement, decided axis by axis -/
def ra_dis (x y : ra_A) (n : Nat) : Bool := ra_any (fun i => decide (x.2.1 i ≠ y.2.1 i)) n
/-- the shape of a cell's result where the frame has no position -/
def ra_S0 (c : Nat) (fl : Int32) (E : ra_A → ra_A → Int32) (R : ra_A → ra_A → ra_A) (x y : ra_A) (fx fy : Nat) : ra_A :=
  if c < ra_size x fx ∨ c < ra_size y fy then ra_sc 0
  else if E (ra_fc fl x fx) (ra_fc fl y fy) = 0 then R (ra_fc fl x fx) (ra_fc fl y fy) else ra_sc 0
def ra_K (R : ra_A → ra_A → ra_A) (x y : ra_A) (fx fy n : Nat) : Nat := ra_max (fun q => (R (ra_cx x y fx fy q) (ra_cy x y fx fy q)).1) n
def ra_w (R : ra_A → ra_A → ra_A) (x y : ra_A) (fx fy n j : Nat) : Nat := ra_max (fun q => ra_lift (R (ra_cx x y fx fy q) (ra_cy x y fx fy q)) j) n
def ra_AE (c : Nat) (fl : Int32) (E : ra_A → ra_A → Int32) (R : ra_A → ra_A → ra_A) (x y : ra_A) (fx fy : Nat) : Int32 :=
  if ra_dis x y (if fx < fy then fx else fy) = true then -1
  else if ra_pos x y fx fy = 0 then (if 3 < ra_fr fx fy + (ra_S0 c fl E R x y fx fy).1 then -4 else 0)
  else if ra_first (fun q => E (ra_cx x y fx fy q) (ra_cy x y fx fy q)) (ra_pos x y fx fy) ≠ 0 then
    ra_first (fun q => E (ra_cx x y fx fy q) (ra_cy x y fx fy q)) (ra_pos x y fx fy)
  else if 3 < ra_fr fx fy + ra_K R x y fx fy (ra_pos x y fx fy) ∨
    c < ra_pos x y fx fy * (ra_w R x y fx fy (ra_pos x y fx fy) 0 * ra_w R x y fx fy (ra_pos x y fx fy) 1 * ra_w R x y fx fy (ra_pos x y fx fy) 2) then -4 else 0
/-- the atom number t of a cell's part, M = w0 w1 w2 -/
def ra_pl (fl : Int32) (w1 w2 : Nat) (z : ra_A) (t : Nat) : Int32 :=
  if t / (w1 * w2) < ra_lift z 0 ∧ t / w2 % w1 < ra_lift z 1 ∧ t % w2 < ra_lift z 2
  then z.2.2 ((t / (w1 * w2) * ra_lift z 1 + t / w2 % w1) * ra_lift z 2 + t % w2) else fl
def ra_AA (c : Nat) (fl : Int32) (E : ra_A → ra_A → Int32) (R : ra_A → ra_A → ra_A) (x y : ra_A) (fx fy : Nat) : ra_A :=
  if ra_pos x y fx fy = 0 then
    (ra_fr fx fy + (ra_S0 c fl E R x y fx fy).1, fun i => if i < ra_fr fx fy then ra_F x y fx fy i else (ra_S0 c fl E R x y fx fy).2.1 (i - ra_fr fx fy), fun _ => 0)
  else
    (ra_fr fx fy + ra_K R x y fx fy (ra_pos x y fx fy),
     fun i => if i < ra_fr fx fy then ra_F x y fx fy i else ra_w R x y fx fy (ra_pos x y fx fy) (i - ra_fr fx fy + (3 - ra_K R x y fx fy (ra_pos x y fx fy))),
     fun n => ra_pl fl (ra_w R x y fx fy (ra_pos x y fx fy) 1) (ra_w R x y fx fy (ra_pos x y fx fy) 2)
       (R (ra_cx x y fx fy (n / (ra_w R x y fx fy (ra_pos x y fx fy) 0 * ra_w R x y fx fy (ra_pos x y fx fy) 1 * ra_w R x y fx fy (ra_pos x y fx fy) 2)))
          (ra_cy x y fx fy (n / (ra_w R x y fx fy (ra_pos x y fx fy) 0 * ra_w R x y fx fy (ra_pos x y fx fy) 1 * ra_w R x y fx fy (ra_pos x y fx fy) 2))))
       (n % (ra_w R x y fx fy (ra_pos x y fx fy) 0 * ra_w R x y fx fy (ra_pos x y fx fy) 1 * ra_w R x y fx fy (ra_pos x y fx fy) 2)))
/-- the effective cell rank -/
def ra_eff (v : Int32) (a : Nat) : Nat := if v < 0 then ((a : Int) + v.toInt).toNat else if v < nI a then v.toNatClampNeg else a
def ra_BE (c : Nat) (fl : Int32) (v : Nat) (x y : ra_A) : Int32 :=
  ra_AE c fl (ra_PE c v) (ra_PA fl v) x y (x.1 - ra_eff (nI (ra_dL v)) x.1) (y.1 - ra_eff (nI (ra_dR v)) y.1)
def ra_BA (c : Nat) (fl : Int32) (v : Nat) (x y : ra_A) : ra_A :=
  ra_AA c fl (ra_PE c v) (ra_PA fl v) x y (x.1 - ra_eff (nI (ra_dL v)) x.1) (y.1 - ra_eff (nI (ra_dR v)) y.1)
/-- the answer of a call: its error, its result -/
def ra_OE (c : Nat) (fl : Int32) (v : Nat) (x y : ra_A) (l r : Int32) : Int32 :=
  ra_AE c fl (ra_BE c fl v) (ra_BA c fl v) x y (x.1 - ra_eff l x.1) (y.1 - ra_eff r y.1)
def ra_OA (c : Nat) (fl : Int32) (v : Nat) (x y : ra_A) (l r : Int32) : ra_A :=
  ra_AA c fl (ra_BE c fl v) (ra_BA c fl v) x y (x.1 - ra_eff l x.1) (y.1 - ra_eff r y.1)

/-! what is to be shown of it (statements, drafts):
  ra_P_W   c >= 8, x y within the limits, fit, PE = 0 gives PA within the limits
  ra_A_W   E R keep the limits: AE = 0 gives AA within the limits
  ra_A_q   E, R on cells alike (ra_q) give the same: AE the same, AA alike (only if needed)
  ra_A_1   fx = fy = 0: AE = E x y, and where that is 0 AA alike R x y   (so B where the ranks fit is P)
  ra_mono  for v < 6 nothing depends on x but its rank 0
  ra_K_w   0 < n: ra_w j = 1 for j < 3 - K; the reference's maxima over shapes lifted to K are ra_w (i + (3 - K))
  ra_pl_3  the reference's taking apart of u by remainders over K axes is ra_pl
-/
end
section
/-! DRAFT, never compiled. Lemmas over the pure picture. -/
theorem ra_max_le {f : Nat → Nat} {b : Nat} : ∀ n, (∀ q, q < n → f q ≤ b) → ra_max f n ≤ b := by
  intro n
  induction n with
  | zero => intro _; exact Nat.zero_le _
  | succ n ih =>
    intro h
    have h1 := ih fun q hq => h q (by omega)
    have h2 := h n (by omega)
    rw [ra_max]; split <;> assumption
theorem ra_le_max {f : Nat → Nat} : ∀ n q, q < n → f q ≤ ra_max f n := by
  intro n
  induction n with
  | zero => intro q hq; omega
  | succ n ih =>
    intro q hq
    rw [ra_max]
    by_cases e : q = n
    · subst e; split <;> omega
    · have := ih q (by omega); split <;> omega
theorem ra_max_const {f : Nat → Nat} {b n : Nat} (h0 : 0 < n) (h : ∀ q, q < n → f q = b) : ra_max f n = b :=
  Nat.le_antisymm (ra_max_le n fun q hq => by rw [h q hq]; exact Nat.le_refl _) (by rw [← h 0 h0]; exact ra_le_max n 0 h0)
theorem ra_max_congr {f g : Nat → Nat} : ∀ n, (∀ q, q < n → f q = g q) → ra_max f n = ra_max g n := by
  intro n
  induction n with
  | zero => intro _; rfl
  | succ n ih => intro h; rw [ra_max, ra_max, ih fun q hq => h q (by omega), h n (by omega)]
theorem ra_first_0 {f : Nat → Int32} : ∀ n, (∀ q, q < n → f q = 0) → ra_first f n = 0 := by
  intro n
  induction n with
  | zero => intro _; rfl
  | succ n ih => intro h; rw [ra_first, if_pos (ih fun q hq => h q (by omega))]; exact h n (by omega)
theorem ra_first_z {f : Nat → Int32} : ∀ n, ra_first f n = 0 → ∀ q, q < n → f q = 0 := by
  intro n
  induction n with
  | zero => intro _ q hq; omega
  | succ n ih =>
    intro h q hq
    rw [ra_first] at h
    by_cases e : ra_first f n = 0
    · rw [if_pos e] at h
      by_cases d : q = n
      · subst d; exact h
      · exact ih e q (by omega)
    · rw [if_neg e] at h; exact absurd h e
theorem ra_first_s {f : Nat → Int32} {q : Nat} (h0 : ra_first f q = 0) (h : f q ≠ 0) : ∀ n, q < n → ra_first f n = f q := by
  intro n
  induction n with
  | zero => intro hq; omega
  | succ n ih =>
    intro hq
    rw [ra_first]
    by_cases e : q = n
    · subst e; rw [if_pos h0]
    · have := ih (by omega)
      rw [if_neg (by rw [this]; exact h), this]
theorem ra_lift_p {a : ra_A} (h : a.1 ≤ 3) : ra_lift a 0 * ra_lift a 1 * ra_lift a 2 = ra_cnt a := by
  obtain ⟨r, d, t⟩ := a
  have h' : r ≤ 3 := h
  match r, h' with
  | 0, _ => simp [ra_lift, ra_cnt, ra_prod]
  | 1, _ => simp [ra_lift, ra_cnt, ra_prod]
  | 2, _ => simp [ra_lift, ra_cnt, ra_prod]
  | 3, _ => simp [ra_lift, ra_cnt, ra_prod]
theorem ra_lift_le {c : Nat} {a : ra_A} (w : ra_W c a) (hc : 1 ≤ c) {j : Nat} (hj : j < 3) : ra_lift a j ≤ c := by
  unfold ra_lift
  have := w.1
  split
  · exact hc
  · exact w.2.1 _ (by omega)
theorem ra_lift_hi {a : ra_A} (h : a.1 ≤ 3) {i : Nat} (hi : i < a.1) : ra_lift a (i + (3 - a.1)) = a.2.1 i := by
  unfold ra_lift
  rw [if_neg (by omega), show i + (3 - a.1) - (3 - a.1) = i by omega]
/-- taken apart and put together -/
theorem ra_split3 {l0 l1 l2 t : Nat} (h : t < l0 * l1 * l2) :
    t / (l1 * l2) < l0 ∧ t / l2 % l1 < l1 ∧ t % l2 < l2 ∧ (t / (l1 * l2) * l1 + t / l2 % l1) * l2 + t % l2 = t := by
  have p2 : 0 < l2 := by
    cases Nat.eq_zero_or_pos l2 with
    | inl z => subst z; simp at h
    | inr z => exact z
  have p1 : 0 < l1 := by
    cases Nat.eq_zero_or_pos l1 with
    | inl z => subst z; simp at h
    | inr z => exact z
  have e : t / (l1 * l2) = t / l2 / l1 := by rw [Nat.div_div_eq_div_mul, Nat.mul_comm]
  refine ⟨?_, Nat.mod_lt _ p1, Nat.mod_lt _ p2, ?_⟩
  · rw [Nat.div_lt_iff_lt_mul (Nat.mul_pos p1 p2), ← Nat.mul_assoc]; exact h
  · rw [e, Nat.div_add_mod' (t / l2) l1, Nat.div_add_mod' t l2]
theorem ra_pl_id {fl : Int32} {z : ra_A} {t : Nat} (hz : z.1 ≤ 3) (h : t < ra_cnt z) : ra_pl fl (ra_lift z 1) (ra_lift z 2) z t = z.2.2 t := by
  rw [← ra_lift_p hz] at h
  obtain ⟨a, b, d, e⟩ := ra_split3 h
  unfold ra_pl
  rw [if_pos ⟨a, b, d⟩, e]
theorem ra_cell_0 (x : ra_A) : ra_cell x 0 0 = x := by
  obtain ⟨r, d, t⟩ := x
  simp [ra_cell]
/-- A of one position is what is done in its cell -/
theorem ra_A_1 {c : Nat} {fl : Int32} {E : ra_A → ra_A → Int32} {R : ra_A → ra_A → ra_A} {x y : ra_A} (hR : E x y = 0 → ra_W c (R x y)) :
    ra_AE c fl E R x y 0 0 = E x y ∧ (E x y = 0 → ra_q (R x y) (ra_AA c fl E R x y 0 0)) := by
  have hp : ra_pos x y 0 0 = 1 := rfl
  have hc0 : ra_cx x y 0 0 0 = x := by unfold ra_cx ra_num; rw [Nat.zero_div]; exact ra_cell_0 x
  have hc1 : ra_cy x y 0 0 0 = y := by unfold ra_cy ra_num; rw [Nat.zero_div]; exact ra_cell_0 y
  have hf : ra_first (fun q => E (ra_cx x y 0 0 q) (ra_cy x y 0 0 q)) 1 = E x y := by
    show (if (0 : Int32) = 0 then E (ra_cx x y 0 0 0) (ra_cy x y 0 0 0) else 0) = E x y
    rw [if_pos rfl, hc0, hc1]
  have hK : ra_K R x y 0 0 1 = (R x y).1 := ra_max_const (by decide) (fun q hq => by
    have : q = 0 := by omega
    subst this; show (R (ra_cx x y 0 0 0) (ra_cy x y 0 0 0)).1 = _; rw [hc0, hc1])
  have hw : ∀ j, ra_w R x y 0 0 1 j = ra_lift (R x y) j := fun j => ra_max_const (by decide) (fun q hq => by
    have : q = 0 := by omega
    subst this; show ra_lift (R (ra_cx x y 0 0 0) (ra_cy x y 0 0 0)) j = _; rw [hc0, hc1])
  have hd : ra_dis x y (if 0 < 0 then 0 else 0) = false := rfl
  have hr : ra_fr 0 0 = 0 := rfl
  constructor
  · unfold ra_AE
    rw [hd, hp, hf, hK, hw, hw, hw, hr, if_neg (by decide), if_neg (by decide)]
    by_cases e : E x y = 0
    · obtain ⟨w1, w2, w3⟩ := hR e
      rw [if_neg (fun z => z e), ra_lift_p w1, if_neg (by omega), e]
    · rw [if_pos e]
  · intro e
    obtain ⟨w1, w2, w3⟩ := hR e
    unfold ra_AA
    rw [hp, if_neg (by decide), hK, hw, hw, hw, hr, ra_lift_p w1]
    refine ⟨(Nat.zero_add _).symm, fun i hi => ?_, fun i hi => ?_⟩
    · show _ = (if i < 0 then ra_F x y 0 0 i else ra_w R x y 0 0 1 (i - 0 + (3 - (R x y).1)))
      rw [if_neg (by omega), hw, Nat.sub_zero, ra_lift_hi w1 hi]
    · show _ = ra_pl fl _ _ (R (ra_cx x y 0 0 (i / ra_cnt (R x y))) (ra_cy x y 0 0 (i / ra_cnt (R x y)))) (i % ra_cnt (R x y))
      rw [Nat.div_eq_of_lt hi, Nat.mod_eq_of_lt hi, hc0, hc1, ra_pl_id w1 hi]
/-! frames -/
theorem ra_F_x {x y : ra_A} {fx fy : Nat} (g : ra_dis x y (if fx < fy then fx else fy) = false) : ∀ i, i < fx → ra_F x y fx fy i = x.2.1 i := fun i hi => by
  unfold ra_F
  by_cases e : fy < fx
  · rw [if_pos e]
  · rw [if_neg e]
    have := ra_any_n g i (by split <;> omega)
    exact (of_decide_eq_false this |> Classical.not_not.mp).symm
theorem ra_F_y {x y : ra_A} {fx fy : Nat} (g : ra_dis x y (if fx < fy then fx else fy) = false) : ∀ i, i < fy → ra_F x y fx fy i = y.2.1 i := fun i hi => by
  unfold ra_F
  by_cases e : fy < fx
  · rw [if_pos e]
    have := ra_any_n g i (by split <;> omega)
    exact (of_decide_eq_false this |> Classical.not_not.mp)
  · rw [if_neg e]
theorem ra_num_lt {x y : ra_A} {fx fy g q : Nat} (hg : g ≤ ra_fr fx fy) (hq : q < ra_pos x y fx fy) : ra_num x y fx fy g q < ra_prod (ra_F x y fx fy) 0 g := by
  unfold ra_num
  unfold ra_pos at hq
  have e := ra_prod_add (ra_F x y fx fy) 0 g (ra_fr fx fy - g)
  rw [Nat.add_sub_cancel' hg, Nat.zero_add] at e
  rw [e] at hq
  exact Nat.div_lt_of_lt_mul (by rw [Nat.mul_comm]; exact hq)
theorem ra_fr_x (fx fy : Nat) : fx ≤ ra_fr fx fy := by unfold ra_fr; split <;> omega
theorem ra_fr_y (fx fy : Nat) : fy ≤ ra_fr fx fy := by unfold ra_fr; split <;> omega
theorem ra_numx {x y : ra_A} {fx fy q : Nat} (g : ra_dis x y (if fx < fy then fx else fy) = false) (hq : q < ra_pos x y fx fy) :
    ra_num x y fx fy fx q < ra_prod x.2.1 0 fx := by
  have h := ra_num_lt (ra_fr_x fx fy) hq
  rw [ra_prod_congr (d' := x.2.1) (f' := 0) fx (fun i hi => by rw [Nat.zero_add]; exact ra_F_x g i hi)] at h
  exact h
theorem ra_numy {x y : ra_A} {fx fy q : Nat} (g : ra_dis x y (if fx < fy then fx else fy) = false) (hq : q < ra_pos x y fx fy) :
    ra_num x y fx fy fy q < ra_prod y.2.1 0 fy := by
  have h := ra_num_lt (ra_fr_y fx fy) hq
  rw [ra_prod_congr (d' := y.2.1) (f' := 0) fy (fun i hi => by rw [Nat.zero_add]; exact ra_F_y g i hi)] at h
  exact h
theorem ra_cx_W {c : Nat} {x y : ra_A} {fx fy q : Nat} (w : ra_W c x) (hx : fx ≤ x.1) (g : ra_dis x y (if fx < fy then fx else fy) = false) (hq : q < ra_pos x y fx fy) : ra_W c (ra_cx x y fx fy q) :=
  ra_cell_W w hx (ra_numx g hq)
theorem ra_cy_W {c : Nat} {x y : ra_A} {fx fy q : Nat} (w : ra_W c y) (hy : fy ≤ y.1) (g : ra_dis x y (if fx < fy then fx else fy) = false) (hq : q < ra_pos x y fx fy) : ra_W c (ra_cy x y fx fy q) :=
  ra_cell_W w hy (ra_numy g hq)
theorem ra_F_le {c : Nat} {x y : ra_A} {fx fy : Nat} (wx : ra_W c x) (wy : ra_W c y) (hx : fx ≤ x.1) (hy : fy ≤ y.1) : ∀ i, i < ra_fr fx fy → ra_F x y fx fy i ≤ c := fun i hi => by
  unfold ra_F
  unfold ra_fr at hi
  by_cases e : fy < fx
  · rw [if_pos e] at hi ⊢; exact wx.2.1 i (by omega)
  · rw [if_neg e] at hi ⊢; exact wy.2.1 i (by omega)
theorem ra_fr_3 {c : Nat} {x y : ra_A} {fx fy : Nat} (wx : ra_W c x) (wy : ra_W c y) (hx : fx ≤ x.1) (hy : fy ≤ y.1) : ra_fr fx fy ≤ 3 := by
  have := wx.1; have := wy.1; unfold ra_fr; split <;> omega
/-- a shape glued of two -/
theorem ra_glue (F G : Nat → Nat) (m : Nat) : ∀ k, ra_prod (fun i => if i < m then F i else G (i - m)) 0 (m + k) = ra_prod F 0 m * ra_prod G 0 k := by
  intro k
  rw [ra_prod_add]
  have e1 : ra_prod (fun i => if i < m then F i else G (i - m)) 0 m = ra_prod F 0 m := ra_prod_congr m (fun i hi => by
    show (if 0 + i < m then F (0 + i) else G (0 + i - m)) = F (0 + i)
    rw [if_pos (by omega)])
  have e2 : ra_prod (fun i => if i < m then F i else G (i - m)) (0 + m) k = ra_prod G 0 k := ra_prod_congr k (fun i hi => by
    show (if 0 + m + i < m then F (0 + m + i) else G (0 + m + i - m)) = G (0 + i)
    rw [if_neg (by omega), show 0 + m + i - m = 0 + i by omega])
  rw [e1, e2]
theorem ra_w3 {w : Nat → Nat} {K : Nat} (hK : K ≤ 3) (h : ∀ j, j < 3 - K → w j = 1) : ra_prod (fun i => w (i + (3 - K))) 0 K = w 0 * w 1 * w 2 := by
  match K, hK, h with
  | 0, _, h => simp [ra_prod, h 0 (by decide), h 1 (by decide), h 2 (by decide)]
  | 1, _, h => simp [ra_prod, h 0 (by decide), h 1 (by decide)]
  | 2, _, h => simp [ra_prod, h 0 (by decide)]
  | 3, _, _ => simp [ra_prod]
end
section
/-! DRAFT, never compiled. The limits are kept: P, A, B. -/
theorem ra_cl_le {z : Int32} {c : Nat} (hc : c < 2 ^ 31) (h : ¬ nI c < z) : z.toNatClampNeg ≤ c := by
  rw [Int32.lt_iff_toInt_lt, nI_toInt hc] at h
  show z.toInt.toNat ≤ c
  omega
theorem ra_cnt_1 (d : Nat → Nat) (r : Nat) : ra_prod d 0 (1 + r) = d 0 * ra_prod d 1 r := by
  rw [ra_prod_add]; simp [ra_prod]
theorem ra_sc_W {c : Nat} (hc : 1 ≤ c) (z : Int32) : ra_W c (ra_sc z) := ⟨Nat.zero_le _, fun i hi => absurd hi (Nat.not_lt_zero i), hc⟩
theorem ra_l1_W {c n : Nat} {t : Nat → Int32} (h : n ≤ c) : ra_W c (1, fun _ => n, t) :=
  ⟨show 1 ≤ 3 by decide, fun _ _ => h, by show 1 * n ≤ c; omega⟩
theorem ra_it_cnt {y : ra_A} (h : y.1 ≠ 0) : ra_cnt y = ra_len y * ra_it y := by
  unfold ra_cnt ra_len ra_it
  rw [if_neg h]
  have e := ra_cnt_1 y.2.1 (y.1 - 1)
  rw [show 1 + (y.1 - 1) = y.1 by omega] at e
  exact e
theorem ra_it_0 {y : ra_A} (h : y.1 = 0) : ra_it y = 1 ∧ ra_len y = 1 ∧ ra_cnt y = 1 := by
  unfold ra_cnt ra_len ra_it; rw [h]; exact ⟨rfl, rfl, rfl⟩
theorem ra_cnt_li (y : ra_A) : ra_cnt y = ra_len y * ra_it y := by
  by_cases h : y.1 = 0
  · obtain ⟨a, b, d⟩ := ra_it_0 h; rw [a, b, d]
  · exact ra_it_cnt h
theorem ra_tail_W {c : Nat} {y : ra_A} {t : Nat → Int32} (wy : ra_W c y) (h : ra_it y ≤ c) : ra_W c (y.1 - 1, fun i => y.2.1 (1 + i), t) := by
  refine ⟨Nat.le_trans (Nat.sub_le _ _) wy.1, fun i hi => wy.2.1 (1 + i) (by have : i < y.1 - 1 := hi; omega), ?_⟩
  have e : ra_cnt (y.1 - 1, fun i => y.2.1 (1 + i), t) = ra_it y := ra_prod_congr _ (fun i _ => by rw [Nat.zero_add])
  rw [e]; exact h
theorem ra_take_W {c m : Nat} {y : ra_A} {t : Nat → Int32} (wy : ra_W c y) (hm : m ≤ c) (h : m * ra_it y ≤ c) :
    ra_W c (if y.1 = 0 then 1 else y.1, fun i => if i = 0 then m else y.2.1 i, t) := by
  have e : ra_cnt (if y.1 = 0 then 1 else y.1, fun i => if i = 0 then m else y.2.1 i, t) = m * ra_it y := by
    by_cases h0 : y.1 = 0
    · rw [(ra_it_0 h0).1, if_pos h0]; show 1 * m = m * 1; omega
    · rw [if_neg h0]
      have e := ra_cnt_1 (fun i => if i = 0 then m else y.2.1 i) (y.1 - 1)
      rw [show 1 + (y.1 - 1) = y.1 by omega] at e
      refine e.trans ?_
      show m * _ = m * _
      congr 1
      exact ra_prod_congr _ (fun i _ => if_neg (by omega))
  refine ⟨?_, fun i hi => ?_, by rw [e]; exact h⟩
  · have := wy.1
    show (if y.1 = 0 then 1 else y.1) ≤ 3
    split <;> omega
  · show (if i = 0 then m else y.2.1 i) ≤ c
    have hi' : i < (if y.1 = 0 then 1 else y.1) := hi
    by_cases i0 : i = 0
    · rw [if_pos i0]; exact hm
    · rw [if_neg i0]; exact wy.2.1 i (by split at hi' <;> omega)
theorem ra_resh_W {c : Nat} {x : ra_A} {t : Nat → Int32} (hc : c < 2 ^ 31) (h3 : ¬ 3 < ra_cnt x) (hb : ra_big c x = false)
    (hp : ¬ c < ra_prod (fun i => (x.2.2 i).toNatClampNeg) 0 (ra_cnt x)) : ra_W c (ra_cnt x, fun i => (x.2.2 i).toNatClampNeg, t) :=
  ⟨Nat.le_of_not_lt h3, fun i hi => ra_cl_le hc (of_decide_eq_false (ra_any_n hb i hi)), Nat.le_of_not_lt hp⟩
theorem ra_P_W {c v : Nat} {fl : Int32} {x y : ra_A} (h8 : 8 ≤ c) (hc : c ≤ 32) (hv : v ≤ 12) (wy : ra_W c y) (h : ra_PE c v x y = 0) : ra_W c (ra_PA fl v x y) := by
  have h1 : 1 ≤ c := by omega
  have h31 : c < 2 ^ 31 := by omega
  unfold ra_PA
  unfold ra_PE at h
  match v, hv with
  | 0, _ => exact ra_sc_W h1 _
  | 1, _ =>
    have h' : (if y.2.2 0 < 0 then (-2 : Int32) else if nI c < y.2.2 0 then -4 else 0) = 0 := h
    show ra_W c (1, fun _ => (y.2.2 0).toNatClampNeg, fun i => nI i)
    refine ra_l1_W (ra_cl_le h31 fun z => ?_)
    by_cases y0 : y.2.2 0 < 0
    · rw [if_pos y0] at h'; exact absurd h' (by decide)
    · rw [if_neg y0, if_pos z] at h'; exact absurd h' (by decide)
  | 2, _ => exact ra_l1_W (Nat.le_trans wy.1 (by omega))
  | 3, _ => exact wy
  | 4, _ => exact ra_tail_W wy (Nat.le_of_not_lt fun z => by
      have h' : (if c < ra_it y then (-4 : Int32) else 0) = 0 := h
      rw [if_pos z] at h'; exact absurd h' (by decide))
  | 5, _ => exact ra_l1_W wy.2.2
  | 6, _ => exact ra_sc_W h1 _
  | 7, _ => exact ra_sc_W h1 _
  | 8, _ => exact ra_sc_W h1 _
  | 9, _ => exact ra_sc_W h1 _
  | 10, _ =>
    have h' : (if ra_neg x = true then (-2 : Int32)
       else if 3 < ra_cnt x ∨ ra_big c x = true ∨ c < ra_prod (fun i => (x.2.2 i).toNatClampNeg) 0 (ra_cnt x) then -4 else 0) = 0 := h
    split at h'
    · exact absurd h' (by decide)
    · split at h'
      · exact absurd h' (by decide)
      · rename_i _ g
        exact ra_resh_W h31 (fun z => g (.inl z)) (by cases e : ra_big c x with
          | false => rfl
          | true => exact absurd (.inr (.inl e)) g) (fun z => g (.inr (.inr z)))
  | 11, _ =>
    have h' : (if c < ra_abs (x.2.2 0) ∨ c < ra_abs (x.2.2 0) * ra_it y then (-4 : Int32) else 0) = 0 := h
    split at h'
    · exact absurd h' (by decide)
    · rename_i g
      exact ra_take_W wy (Nat.le_of_not_lt fun z => g (.inl z)) (Nat.le_of_not_lt fun z => g (.inr z))
  | 12, _ =>
    have h' : (if (x.2.2 0).toInt < -(ra_len y : Int) ∨ (ra_len y : Int) ≤ (x.2.2 0).toInt then (-3 : Int32) else 0) = 0 := h
    split at h'
    · exact absurd h' (by decide)
    · rename_i g
      have hl : 0 < ra_len y := by
        cases Nat.eq_zero_or_pos (ra_len y) with
        | inl z => exact absurd (by omega) g
        | inr z => exact z
      refine ra_tail_W wy (Nat.le_trans (Nat.le_mul_of_pos_left _ hl) ?_)
      rw [← ra_cnt_li]; exact wy.2.2
/-- below K the widths are ones -/
theorem ra_w_1 {R : ra_A → ra_A → ra_A} {x y : ra_A} {fx fy n : Nat} (h0 : 0 < n) : ∀ j, j < 3 - ra_K R x y fx fy n → ra_w R x y fx fy n j = 1 := fun j hj =>
  ra_max_const h0 (fun q hq => by
    have h := ra_le_max (f := fun q => (R (ra_cx x y fx fy q) (ra_cy x y fx fy q)).1) n q hq
    show ra_lift _ j = 1
    unfold ra_lift
    rw [if_pos]
    have h' : (R (ra_cx x y fx fy q) (ra_cy x y fx fy q)).1 ≤ ra_K R x y fx fy n := h
    omega)
/-- what a cell's E and R must keep -/
def ra_ok (c : Nat) (E : ra_A → ra_A → Int32) (R : ra_A → ra_A → ra_A) : Prop := ∀ x y, ra_W c x → ra_W c y → E x y = 0 → ra_W c (R x y)
theorem ra_S0_W {c : Nat} {fl : Int32} {E : ra_A → ra_A → Int32} {R : ra_A → ra_A → ra_A} {x y : ra_A} {fx fy : Nat} (h1 : 1 ≤ c) (ok : ra_ok c E R) (wx : ra_W c x) (wy : ra_W c y) :
    ra_W c (ra_S0 c fl E R x y fx fy) := by
  unfold ra_S0
  split
  · exact ra_sc_W h1 _
  · rename_i g
    split
    · rename_i e
      exact ok _ _ (ra_fc_W wx (Nat.le_of_not_lt fun z => g (.inl z))) (ra_fc_W wy (Nat.le_of_not_lt fun z => g (.inr z))) e
    · exact ra_sc_W h1 _
theorem ra_A_W {c : Nat} {fl : Int32} {E : ra_A → ra_A → Int32} {R : ra_A → ra_A → ra_A} {x y : ra_A} {fx fy : Nat} (h1 : 1 ≤ c) (ok : ra_ok c E R) (wx : ra_W c x) (wy : ra_W c y)
    (hx : fx ≤ x.1) (hy : fy ≤ y.1) (h : ra_AE c fl E R x y fx fy = 0) : ra_W c (ra_AA c fl E R x y fx fy) := by
  have g' : ra_dis x y (if fx < fy then fx else fy) = false := by
    cases e : ra_dis x y (if fx < fy then fx else fy) with
    | false => rfl
    | true =>
      exfalso
      unfold ra_AE at h
      rw [if_pos e] at h
      exact absurd h (by decide)
  unfold ra_AE at h
  rw [g', if_neg Bool.false_ne_true] at h
  unfold ra_AA
  have hF := ra_F_le wx wy hx hy
  by_cases p0 : ra_pos x y fx fy = 0
  · rw [if_pos p0] at h ⊢
    have s3 : ¬ 3 < ra_fr fx fy + (ra_S0 c fl E R x y fx fy).1 := fun z => by
      rw [if_pos z] at h; exact absurd h (by decide)
    have sW := ra_S0_W (fl := fl) (fx := fx) (fy := fy) h1 ok wx wy
    refine ⟨Nat.le_of_not_lt s3, fun i hi => ?_, ?_⟩
    · show (if i < ra_fr fx fy then ra_F x y fx fy i else _) ≤ c
      by_cases e : i < ra_fr fx fy
      · rw [if_pos e]; exact hF i e
      · rw [if_neg e]; exact sW.2.1 _ (by have : i < ra_fr fx fy + _ := hi; omega)
    · have e := ra_glue (ra_F x y fx fy) (ra_S0 c fl E R x y fx fy).2.1 (ra_fr fx fy) (ra_S0 c fl E R x y fx fy).1
      show ra_prod _ 0 _ ≤ c
      rw [e]
      have : ra_prod (ra_F x y fx fy) 0 (ra_fr fx fy) = 0 := p0
      rw [this, Nat.zero_mul]; exact Nat.zero_le _
  · rw [if_neg p0] at h ⊢
    have fz : ra_first (fun q => E (ra_cx x y fx fy q) (ra_cy x y fx fy q)) (ra_pos x y fx fy) = 0 := by
      by_cases z : ra_first (fun q => E (ra_cx x y fx fy q) (ra_cy x y fx fy q)) (ra_pos x y fx fy) = 0
      · exact z
      · rw [if_pos z] at h; exact absurd h z
    rw [if_neg (fun z => z fz)] at h
    have lz : ¬ (3 < ra_fr fx fy + ra_K R x y fx fy (ra_pos x y fx fy) ∨
        c < ra_pos x y fx fy * (ra_w R x y fx fy (ra_pos x y fx fy) 0 * ra_w R x y fx fy (ra_pos x y fx fy) 1 * ra_w R x y fx fy (ra_pos x y fx fy) 2)) := fun z => by
      rw [if_pos z] at h; exact absurd h (by decide)
    have fz' := ra_first_z _ fz
    have pp : 0 < ra_pos x y fx fy := Nat.pos_of_ne_zero p0
    have zW : ∀ q, q < ra_pos x y fx fy → ra_W c (R (ra_cx x y fx fy q) (ra_cy x y fx fy q)) := fun q hq =>
      ok _ _ (ra_cx_W wx hx g' hq) (ra_cy_W wy hy g' hq) (fz' q hq)
    have k3 : ra_K R x y fx fy (ra_pos x y fx fy) ≤ 3 := ra_max_le _ fun q hq => (zW q hq).1
    refine ⟨Nat.le_of_not_lt fun z => lz (.inl z), fun i hi => ?_, ?_⟩
    · show (if i < ra_fr fx fy then ra_F x y fx fy i else _) ≤ c
      by_cases e : i < ra_fr fx fy
      · rw [if_pos e]; exact hF i e
      · rw [if_neg e]
        have hi' : i < ra_fr fx fy + ra_K R x y fx fy (ra_pos x y fx fy) := hi
        exact ra_max_le _ fun q hq => ra_lift_le (zW q hq) h1 (by omega)
    · have e := ra_glue (ra_F x y fx fy) (fun i => ra_w R x y fx fy (ra_pos x y fx fy) (i + (3 - ra_K R x y fx fy (ra_pos x y fx fy)))) (ra_fr fx fy) (ra_K R x y fx fy (ra_pos x y fx fy))
      show ra_prod _ 0 _ ≤ c
      rw [e, ra_w3 k3 (ra_w_1 pp)]
      exact Nat.le_of_not_lt fun z => lz (.inr z)
theorem ra_P_ok {c v : Nat} {fl : Int32} (h8 : 8 ≤ c) (hc : c ≤ 32) (hv : v ≤ 12) : ra_ok c (ra_PE c v) (ra_PA fl v) := fun _ _ _ wy h => ra_P_W h8 hc hv wy h
theorem ra_B_ok {c v : Nat} {fl : Int32} (h8 : 8 ≤ c) (hc : c ≤ 32) (hv : v ≤ 12) : ra_ok c (ra_BE c fl v) (ra_BA c fl v) := fun _ _ wx wy h =>
  ra_A_W (by omega) (ra_P_ok h8 hc hv) wx wy (Nat.sub_le _ _) (Nat.sub_le _ _) h
end
section
/-! DRAFT, never compiled. Where the ranks fit B is P; the reference's placing. -/
theorem ra_eff_n {d a : Nat} (hd : d < 2 ^ 31) (ha : a < 2 ^ 31) : ra_eff (nI d) a = if d < a then d else a := by
  unfold ra_eff
  rw [if_neg (nI_pos hd), nI_clamp hd]
  by_cases e : d < a
  · rw [if_pos e, if_pos ((nI_ltI hd ha).mpr e)]
  · rw [if_neg e, if_neg (fun z => e ((nI_ltI hd ha).mp z))]
theorem ra_eff_le (v : Int32) (a : Nat) (ha : a < 2 ^ 31) : ra_eff v a ≤ a := by
  unfold ra_eff
  split
  · rename_i h
    rw [Int32.lt_iff_toInt_lt] at h
    have : (0 : Int32).toInt = 0 := rfl
    omega
  · split
    · rename_i h0 h
      exact Nat.le_of_lt (by
        rw [Int32.lt_iff_toInt_lt, nI_toInt ha] at h
        rw [Int32.lt_iff_toInt_lt] at h0
        have : (0 : Int32).toInt = 0 := rfl
        show v.toInt.toNat < a
        omega)
    · exact Nat.le_refl _
theorem ra_dL_1 (v : Nat) : ra_dL v ≤ 1 := by unfold ra_dL; split <;> decide
theorem ra_dR_3 (v : Nat) : ra_dR v ≤ 3 := by unfold ra_dR; split <;> decide
theorem ra_B_fit {c v : Nat} {fl : Int32} {x y : ra_A} (h8 : 8 ≤ c) (hc : c ≤ 32) (hv : v ≤ 12) (wy : ra_W c y) (hx : x.1 ≤ ra_dL v) (hy : y.1 ≤ ra_dR v) :
    ra_BE c fl v x y = ra_PE c v x y ∧ (ra_PE c v x y = 0 → ra_q (ra_PA fl v x y) (ra_BA c fl v x y)) := by
  have a := ra_dL_1 v
  have b := ra_dR_3 v
  have ex : x.1 - ra_eff (nI (ra_dL v)) x.1 = 0 := by
    rw [ra_eff_n (by omega) (by omega), if_neg (by omega)]; omega
  have ey : y.1 - ra_eff (nI (ra_dR v)) y.1 = 0 := by
    rw [ra_eff_n (by omega) (by omega), if_neg (by omega)]; omega
  unfold ra_BE ra_BA
  rw [ex, ey]
  exact ra_A_1 (fun h => ra_P_W h8 hc hv wy h)
/-- a cell of A at declared ranks fits them -/
theorem ra_cell_fit {p d : Nat} {x : ra_A} (ha : x.1 ≤ 3) (hd : d ≤ 3) : (ra_cell x (x.1 - ra_eff (nI d) x.1) p).1 ≤ d := by
  show x.1 - (x.1 - ra_eff (nI d) x.1) ≤ d
  rw [ra_eff_n (by omega) (by omega)]
  split <;> omega
/-! the reference takes u apart by remainders: k axes -/
theorem ra_pl_0 {fl : Int32} {z : ra_A} (hz : z.1 = 0) : ra_pl fl 1 1 z 0 = z.2.2 0 := by
  unfold ra_pl ra_lift; rw [hz]; simp
theorem ra_pl_1 {fl : Int32} {z : ra_A} {w2 u : Nat} (hz : z.1 ≤ 1) (hu : u < w2) :
    ra_pl fl 1 w2 z u = if u % w2 < ra_lift z 2 then z.2.2 (u % w2) else fl := by
  have l0 : ra_lift z 0 = 1 := by unfold ra_lift; rw [if_pos (by omega)]
  have l1 : ra_lift z 1 = 1 := by unfold ra_lift; rw [if_pos (by omega)]
  unfold ra_pl
  rw [Nat.one_mul, Nat.div_eq_of_lt hu, l0, l1, Nat.zero_mod]
  by_cases e : u % w2 < ra_lift z 2
  · rw [if_pos e, if_pos ⟨by decide, by decide, e⟩]; simp
  · rw [if_neg e, if_neg (fun h => e h.2.2)]
theorem ra_pl_2 {fl : Int32} {z : ra_A} {w1 w2 u : Nat} (hz : z.1 ≤ 2) (hu : u < w1 * w2) :
    ra_pl fl w1 w2 z u = if u % w2 < ra_lift z 2 ∧ u / w2 % w1 < ra_lift z 1 then z.2.2 (u % w2 + u / w2 % w1 * ra_lift z 2) else fl := by
  have l0 : ra_lift z 0 = 1 := by unfold ra_lift; rw [if_pos (by omega)]
  unfold ra_pl
  rw [Nat.div_eq_of_lt hu, l0]
  by_cases e : u % w2 < ra_lift z 2 ∧ u / w2 % w1 < ra_lift z 1
  · rw [if_pos e, if_pos ⟨by decide, e.2, e.1⟩, Nat.zero_mul, Nat.zero_add, Nat.add_comm]
  · rw [if_neg e, if_neg (fun h => e ⟨h.2.2, h.2.1⟩)]
theorem ra_ix3 (a b k l1 l2 : Nat) : (a * l1 + b) * l2 + k = k + b * l2 + a * (l2 * l1) := by
  rw [Nat.add_mul, Nat.mul_assoc, Nat.mul_comm l1 l2]; omega
theorem ra_pl_3 {fl : Int32} {z : ra_A} {w0 w1 w2 u : Nat} (hu : u < w0 * w1 * w2) :
    ra_pl fl w1 w2 z u = if u % w2 < ra_lift z 2 ∧ u / w2 % w1 < ra_lift z 1 ∧ u / w2 / w1 % w0 < ra_lift z 0
      then z.2.2 (u % w2 + u / w2 % w1 * ra_lift z 2 + u / w2 / w1 % w0 * (ra_lift z 2 * ra_lift z 1)) else fl := by
  obtain ⟨a, b, d, e⟩ := ra_split3 hu
  have q : u / (w1 * w2) = u / w2 / w1 := by rw [Nat.div_div_eq_div_mul, Nat.mul_comm]
  unfold ra_pl
  rw [q] at a ⊢
  rw [Nat.mod_eq_of_lt a]
  by_cases h : u % w2 < ra_lift z 2 ∧ u / w2 % w1 < ra_lift z 1 ∧ u / w2 / w1 < ra_lift z 0
  · rw [if_pos h, if_pos ⟨h.2.2, h.2.1, h.1⟩]
    rw [ra_ix3]
  · rw [if_neg h, if_neg (fun g => h ⟨g.2.2, g.2.1, g.1⟩)]
/-- X's placing: the number made of i, j, k is taken apart again -/
theorem ra_join {w1 w2 i j k : Nat} (hj : j < w1) (hk : k < w2) :
    ((i * w1 + j) * w2 + k) / (w1 * w2) = i ∧ ((i * w1 + j) * w2 + k) / w2 % w1 = j ∧ ((i * w1 + j) * w2 + k) % w2 = k := by
  have p2 : 0 < w2 := by omega
  have p1 : 0 < w1 := by omega
  have d2 : ((i * w1 + j) * w2 + k) / w2 = i * w1 + j := by
    rw [Nat.mul_comm, Nat.mul_add_div p2, Nat.div_eq_of_lt hk, Nat.add_zero]
  have d1 : (i * w1 + j) / w1 = i := by
    rw [Nat.mul_comm, Nat.mul_add_div p1, Nat.div_eq_of_lt hj, Nat.add_zero]
  refine ⟨?_, ?_, ?_⟩
  · rw [Nat.mul_comm w1 w2, ← Nat.div_div_eq_div_mul, d2, d1]
  · rw [d2, Nat.mul_comm, Nat.mul_add_mod, Nat.mod_eq_of_lt hj]
  · rw [Nat.mul_comm, Nat.mul_add_mod, Nat.mod_eq_of_lt hk]
end
section
/-! blocks written into an array, loops, numbers -/
def ra_blk (a : Nat → Int32) (d n : Nat) (g : Nat → Int32) : Nat → Int32 := fun j => if d ≤ j ∧ j < d + n then g (j - d) else a j
theorem ra_blk_0 {a : Nat → Int32} {d : Nat} {g : Nat → Int32} : ra_blk a d 0 g = a := funext fun j => if_neg (by omega)
theorem ra_blk_in {a : Nat → Int32} {d n i : Nat} {g : Nat → Int32} (h : i < n) : ra_blk a d n g (d + i) = g i := by
  unfold ra_blk
  rw [if_pos (by omega), Nat.add_sub_cancel_left]
theorem ra_blk_out {a : Nat → Int32} {d n j : Nat} {g : Nat → Int32} (h : j < d ∨ d + n ≤ j) : ra_blk a d n g j = a j := if_neg (by omega)
theorem ra_blk_s {a : Nat → Int32} {d n : Nat} {g : Nat → Int32} {v : Int32} (hv : v = g n) : upd (ra_blk a d n g) (d + n) v = ra_blk a d (n + 1) g := funext fun j => by
  subst hv
  by_cases e : j = d + n
  · subst e
    rw [pk_us, ra_blk_in (Nat.lt_succ_self n)]
  · rw [pk_un e]
    by_cases h : d ≤ j ∧ j < d + n
    · obtain ⟨i, rfl⟩ : ∃ i, j = d + i := ⟨j - d, by omega⟩
      rw [ra_blk_in (by omega), ra_blk_in (by omega)]
    · rw [ra_blk_out (by omega), ra_blk_out (by omega)]
/-- two blocks, one behind the other -/
theorem ra_blk_blk {a : Nat → Int32} {d n m : Nat} {g h : Nat → Int32} (e : ∀ i, i < m → h i = g (n + i)) : ra_blk (ra_blk a d n g) (d + n) m h = ra_blk a d (n + m) g := funext fun j => by
  by_cases z : d + n ≤ j ∧ j < d + n + m
  · obtain ⟨i, rfl⟩ : ∃ i, j = d + n + i := ⟨j - (d + n), by omega⟩
    rw [ra_blk_in (by omega), e i (by omega), Nat.add_assoc, ra_blk_in (by omega)]
  · rw [ra_blk_out (by omega)]
    by_cases y : d ≤ j ∧ j < d + n
    · obtain ⟨i, rfl⟩ : ∃ i, j = d + i := ⟨j - d, by omega⟩
      rw [ra_blk_in (by omega), ra_blk_in (by omega)]
    · rw [ra_blk_out (by omega), ra_blk_out (by omega)]
/-- a loop whose state is a function of its counter -/
theorem ra_loop (W : Nat → Nat → Prop) (e : Nat) (hx : ∀ n, W (n + 1) e) (hs : ∀ n i, i < e → W n (i + 1) → W (n + 1) i) : ∀ i, i ≤ e → ∃ n, W n i := by
  have key : ∀ k i, i + k = e → ∀ m, W (m + k + 1) i := by
    intro k
    induction k with
    | zero =>
      intro i h m
      have h' : e = i := by omega
      subst h'
      exact hx m
    | succ k ih => intro i h m; exact hs (m + k + 1) i (by omega) (ih (i + 1) (by omega) m)
  intro i h
  exact ⟨0 + (e - i) + 1, key (e - i) i (by omega) 0⟩
theorem ra_loop0 {W0 : Nat → Prop} (W : Nat → Nat → Prop) (e : Nat) (hx : ∀ n, W (n + 1) e) (hs : ∀ n i, i < e → W n (i + 1) → W (n + 1) i) (h0 : ∀ n, W n 0 → W0 n) : ∃ n, W0 n :=
  let ⟨n, h⟩ := ra_loop W e hx hs 0 (Nat.zero_le e)
  ⟨n, h0 n h⟩
/-- a loop with a state that changes -/
theorem ra_loopS {σ : Type} (W : Nat → Nat → σ → Prop) (I : Nat → σ → Prop) (e : Nat) (hx : ∀ n s, I e s → W (n + 1) e s)
    (hs : ∀ n i s, i < e → I i s → (∀ s', I (i + 1) s' → W n (i + 1) s') → W (n + 1) i s) : ∀ i s, i ≤ e → I i s → ∃ n, W n i s := by
  have key : ∀ k i, i + k = e → ∀ m s, I i s → W (m + k + 1) i s := by
    intro k
    induction k with
    | zero =>
      intro i h m s hI
      have h' : e = i := by omega
      subst h'
      exact hx m s hI
    | succ k ih => intro i h m s hI; exact hs (m + k + 1) i s (by omega) hI (fun s' h' => ih (i + 1) (by omega) m s' h')
  intro i s h hI
  exact ⟨0 + (e - i) + 1, key (e - i) i (by omega) 0 s hI⟩
/-! numbers -/
theorem ra_m3 (s : Nat) : nI s * 3 = nI (s * 3) := pk_mul s 3
theorem ra_m32 (s : Nat) : nI s * 32 = nI (s * 32) := pk_mul s 32
theorem ra_a2 (s : Nat) : nI s + 2 = nI (s + 2) := nI_add s 2
theorem ra_k8 (i : Nat) : (8 : Int32) + nI i = nI (8 + i) := nI_add 8 i
theorem ra_k4 (i : Nat) : (4 : Int32) + nI i = nI (4 + i) := nI_add 4 i
theorem ra_k6 (i : Nat) : (6 : Int32) + nI i = nI (6 + i) := nI_add 6 i
theorem ra_k30 (i : Nat) : (30 : Int32) + nI i = nI (30 + i) := nI_add 30 i
theorem ra_k21 (i : Nat) : (21 : Int32) + nI i = nI (21 + i) := nI_add 21 i
theorem ra_k22 (i : Nat) : (22 : Int32) + nI i = nI (22 + i) := nI_add 22 i
theorem ra_k15 (i : Nat) : (15 : Int32) + nI i = nI (15 + i) := nI_add 15 i
theorem ra_k160 (i : Nat) : (160 : Int32) + nI i = nI (160 + i) := nI_add 160 i
theorem ra_k224 (i : Nat) : (224 : Int32) + nI i = nI (224 + i) := nI_add 224 i
theorem ra_k320 (i : Nat) : (320 : Int32) + nI i = nI (320 + i) := nI_add 320 i
theorem ra_inI {k N : Nat} (h : k < N) (hN : N < 2 ^ 31) : vp_in (nI k) N ↔ True := ⟨fun _ => True.intro, fun _ => vp_in_nI h hN⟩
theorem ra_divM {n q M : Nat} (h1 : q * M ≤ n) (h2 : n < q * M + M) : n / M = q ∧ n % M = n - q * M := by
  obtain ⟨i, rfl⟩ : ∃ i, n = q * M + i := ⟨n - q * M, by omega⟩
  have hi : i < M := by omega
  have p : 0 < M := by omega
  constructor
  · rw [Nat.mul_comm, Nat.mul_add_div p, Nat.div_eq_of_lt hi, Nat.add_zero]
  · rw [Nat.mul_comm, Nat.mul_add_mod, Nat.mod_eq_of_lt hi]; omega
theorem ra_step {n q M : Nat} (h : n < (q + 1) * M) : n < q * M ∨ (q * M ≤ n ∧ n < q * M + M) := by
  rw [Nat.succ_mul] at h; omega
/-- what is in a cell's part lies within the whole -/
theorem ra_part {q P M t c : Nat} (hq : q < P) (h : P * M ≤ c) (ht : t < M) : q * M + t < c := by
  have : (q + 1) * M ≤ P * M := Nat.mul_le_mul_right _ hq
  rw [Nat.succ_mul] at this; omega
/-! a slot written anew -/
theorem ra_H_blk {rk dm am : Nat → Int32} {t : Nat} {b : ra_A} {gd ga : Nat → Int32} (hd : ∀ i, i < b.1 → gd i = nI (b.2.1 i)) (ha : ∀ i, i < ra_cnt b → ga i = b.2.2 i) :
    ra_H (upd rk t (nI b.1)) (ra_blk dm (t * 3) b.1 gd) (ra_blk am (t * 32) (ra_cnt b) ga) t b :=
  ⟨pk_us, fun i hi => (ra_blk_in hi).trans (hd i hi), fun i hi => (ra_blk_in hi).trans (ha i hi)⟩
theorem ra_S_blk {rk dm am : Nat → Int32} {t j n m : Nat} {z : Int32} {gd ga : Nat → Int32} (hn : n ≤ 3) (hm : m ≤ 32) (h : j ≠ t) :
    ra_S rk dm am (upd rk t z) (ra_blk dm (t * 3) n gd) (ra_blk am (t * 32) m ga) j :=
  ⟨pk_un h, fun i hi => ra_blk_out (by omega), fun i hi => ra_blk_out (by omega)⟩
/-! the LIMIT rule -/
def ra_lim (c : Nat) (d : Nat → Nat) (r : Nat) : Bool := ra_any (fun i => decide (c < d i)) r || decide (c < ra_prod d 0 r)
theorem ra_lim_le {c : Nat} {d : Nat → Nat} {r : Nat} (h : ∀ i, i < r → d i ≤ c) : ra_lim c d r = decide (c < ra_prod d 0 r) := by
  unfold ra_lim
  rw [ra_any_f r (fun i hi => decide_eq_false (by have := h i hi; omega)), Bool.false_or]
theorem ra_any_congr {p q : Nat → Bool} : ∀ n, (∀ i, i < n → p i = q i) → ra_any p n = ra_any q n := by
  intro n
  induction n with
  | zero => intro _; rfl
  | succ n ih => intro h; rw [ra_any, ra_any, ih (fun i hi => h i (by omega)), h n (by omega)]
theorem ra_lim_congr {c : Nat} {d d' : Nat → Nat} {r : Nat} (h : ∀ i, i < r → d i = d' i) : ra_lim c d r = ra_lim c d' r := by
  unfold ra_lim
  rw [ra_prod_congr (d' := d') (f' := 0) r (fun i hi => by rw [Nat.zero_add]; exact h i hi)]
  rw [ra_any_congr r (fun i hi => by rw [h i hi])]
/-! A, read step by step -/
section
variable {c : Nat} {fl : Int32} {E : ra_A → ra_A → Int32} {R : ra_A → ra_A → ra_A} {x y : ra_A} {fx fy : Nat}
theorem ra_AE_d (h : ra_dis x y (if fx < fy then fx else fy) = true) : ra_AE c fl E R x y fx fy = -1 := by
  unfold ra_AE; rw [if_pos h]
theorem ra_AE_0 (h : ra_dis x y (if fx < fy then fx else fy) = false) (p : ra_pos x y fx fy = 0) :
    ra_AE c fl E R x y fx fy = if 3 < ra_fr fx fy + (ra_S0 c fl E R x y fx fy).1 then -4 else 0 := by
  unfold ra_AE; rw [h, if_neg Bool.false_ne_true, if_pos p]
theorem ra_AE_e (h : ra_dis x y (if fx < fy then fx else fy) = false) {q : Nat} (hq : q < ra_pos x y fx fy)
    (hz : ∀ i, i < q → E (ra_cx x y fx fy i) (ra_cy x y fx fy i) = 0) (he : E (ra_cx x y fx fy q) (ra_cy x y fx fy q) ≠ 0) :
    ra_AE c fl E R x y fx fy = E (ra_cx x y fx fy q) (ra_cy x y fx fy q) := by
  have e := ra_first_s (f := fun q => E (ra_cx x y fx fy q) (ra_cy x y fx fy q)) (ra_first_0 q hz) he _ hq
  unfold ra_AE
  rw [h, if_neg Bool.false_ne_true, if_neg (by omega), e, if_pos he]
theorem ra_AE_l (h : ra_dis x y (if fx < fy then fx else fy) = false) (p : 0 < ra_pos x y fx fy)
    (hz : ∀ i, i < ra_pos x y fx fy → E (ra_cx x y fx fy i) (ra_cy x y fx fy i) = 0) :
    ra_AE c fl E R x y fx fy = if 3 < ra_fr fx fy + ra_K R x y fx fy (ra_pos x y fx fy) ∨
    c < ra_pos x y fx fy * (ra_w R x y fx fy (ra_pos x y fx fy) 0 * ra_w R x y fx fy (ra_pos x y fx fy) 1 * ra_w R x y fx fy (ra_pos x y fx fy) 2) then -4 else 0 := by
  have e := ra_first_0 (f := fun q => E (ra_cx x y fx fy q) (ra_cy x y fx fy q)) _ hz
  unfold ra_AE
  rw [h, if_neg Bool.false_ne_true, if_neg (by omega), e, if_neg (fun z => z rfl)]
theorem ra_z0 : (0 : Int32) ≠ 0 → (0 : Int32) < 0 := fun z => absurd rfl z
theorem ra_ite_n {p : Prop} [Decidable p] {a b : Int32} (ha : a ≠ 0 → a < 0) (hb : b ≠ 0 → b < 0) : (if p then a else b) ≠ 0 → (if p then a else b) < 0 := by
  by_cases h : p
  · rw [if_pos h]; exact ha
  · rw [if_neg h]; exact hb
theorem ra_first_n {f : Nat → Int32} (h : ∀ q, f q ≠ 0 → f q < 0) : ∀ n, ra_first f n ≠ 0 → ra_first f n < 0 := by
  intro n
  induction n with
  | zero => intro z; exact absurd rfl z
  | succ n ih =>
    rw [ra_first]
    by_cases e : ra_first f n = 0
    · rw [if_pos e]; exact h n
    · rw [if_neg e]; exact ih
theorem ra_AE_n (h : ∀ x y, E x y ≠ 0 → E x y < 0) : ra_AE c fl E R x y fx fy ≠ 0 → ra_AE c fl E R x y fx fy < 0 := by
  unfold ra_AE
  exact ra_ite_n (fun _ => by decide) (ra_ite_n (ra_ite_n (fun _ => by decide) ra_z0) (ra_ite_n (ra_first_n (fun q => h _ _) _) (ra_ite_n (fun _ => by decide) ra_z0)))
end
theorem ra_PE_n {c v : Nat} {x y : ra_A} : ra_PE c v x y ≠ 0 → ra_PE c v x y < 0 := by
  unfold ra_PE
  exact ra_ite_n (ra_ite_n (fun _ => by decide) (ra_ite_n (fun _ => by decide) ra_z0)) (ra_ite_n (ra_ite_n (fun _ => by decide) ra_z0)
    (ra_ite_n (ra_ite_n (fun _ => by decide) (ra_ite_n (fun _ => by decide) ra_z0)) (ra_ite_n (ra_ite_n (fun _ => by decide) ra_z0) (ra_ite_n (ra_ite_n (fun _ => by decide) ra_z0) ra_z0))))
theorem ra_BE_n {c v : Nat} {fl : Int32} {x y : ra_A} : ra_BE c fl v x y ≠ 0 → ra_BE c fl v x y < 0 := ra_AE_n (fun _ _ => ra_PE_n)
theorem ra_OE_n {c v : Nat} {fl : Int32} {x y : ra_A} {l r : Int32} : ra_OE c fl v x y l r ≠ 0 → ra_OE c fl v x y l r < 0 := ra_AE_n (fun _ _ => ra_BE_n)
/-- the effective rank, as both sides reckon it -/
theorem ra_eff_neg {v : Int32} {a : Nat} (ha : a ≤ 3) (h : v < 0) : (nI a + v).toInt = (a : Int) + v.toInt := by
  have h0 : (0 : Int32).toInt = 0 := rfl
  rw [Int32.lt_iff_toInt_lt, h0] at h
  have h1 := Int32.le_toInt v
  rw [Int32.toInt_add, nI_toInt (by omega)]
  exact Int.bmod_eq_of_le (by omega) (by omega)
theorem ra_eff_p {v : Int32} {a : Nat} (ha : a ≤ 3) (h : v < 0) (g : 0 < nI a + v) : nI a + v = nI (ra_eff v a) := by
  have e := ra_eff_neg ha h
  have h0 : (0 : Int32).toInt = 0 := rfl
  rw [Int32.lt_iff_toInt_lt, h0, e] at g
  unfold ra_eff
  rw [if_pos h]
  apply Int32.toInt_inj.mp
  have h' := h
  rw [Int32.lt_iff_toInt_lt, h0] at h'
  rw [e, nI_toInt (by omega)]
  omega
theorem ra_eff_z {v : Int32} {a : Nat} (ha : a ≤ 3) (h : v < 0) (g : ¬ 0 < nI a + v) : ra_eff v a = 0 := by
  have e := ra_eff_neg ha h
  have h0 : (0 : Int32).toInt = 0 := rfl
  rw [Int32.lt_iff_toInt_lt, h0, e] at g
  unfold ra_eff
  rw [if_pos h]
  omega
theorem ra_eff_l {v : Int32} {a : Nat} (h : ¬ v < 0) (g : v < nI a) : v = nI (ra_eff v a) := by
  unfold ra_eff
  rw [if_neg h, if_pos g]
  obtain ⟨j, hj, rfl⟩ := nI_of h
  rw [nI_clamp hj]
theorem ra_eff_h {v : Int32} {a : Nat} (h : ¬ v < 0) (g : ¬ v < nI a) : ra_eff v a = a := by
  unfold ra_eff
  rw [if_neg h, if_neg g]
end
section
/-! from what a side has written to what the picture says -/
theorem ra_lim_g {c fr K : Nat} {F w : Nat → Nat} (hF : ∀ i, i < fr → F i ≤ c) (hw : ∀ j, j < 3 → w j ≤ c) (hK : K ≤ 3) (h1 : ∀ j, j < 3 - K → w j = 1) :
    ra_lim c (fun i => if i < fr then F i else w (i - fr + (3 - K))) (fr + K) = decide (c < ra_prod F 0 fr * (w 0 * w 1 * w 2)) := by
  have h : ∀ i, i < fr + K → (fun i => if i < fr then F i else w (i - fr + (3 - K))) i ≤ c := fun i hi => by
    show (if i < fr then F i else w (i - fr + (3 - K))) ≤ c
    by_cases e : i < fr
    · rw [if_pos e]; exact hF i e
    · rw [if_neg e]; exact hw _ (by omega)
  rw [ra_lim_le h, ra_glue F (fun i => w (i + (3 - K))) fr K, ra_w3 hK h1]
theorem ra_lim_0 {c fr K : Nat} {F G : Nat → Nat} (hF : ∀ i, i < fr → F i ≤ c) (hG : ∀ i, i < K → G i ≤ c) (hp : ra_prod F 0 fr = 0) :
    ra_lim c (fun i => if i < fr then F i else G (i - fr)) (fr + K) = false := by
  have h : ∀ i, i < fr + K → (fun i => if i < fr then F i else G (i - fr)) i ≤ c := fun i hi => by
    show (if i < fr then F i else G (i - fr)) ≤ c
    by_cases e : i < fr
    · rw [if_pos e]; exact hF i e
    · rw [if_neg e]; exact hG _ (by omega)
  rw [ra_lim_le h, ra_glue F G fr K, hp, Nat.zero_mul]
  exact decide_eq_false (by omega)
section
variable {c : Nat} {fl : Int32} {E : ra_A → ra_A → Int32} {R : ra_A → ra_A → ra_A} {x y : ra_A} {fx fy : Nat} {rk dm am : Nat → Int32} {t : Nat}
theorem ra_AA_n (p : ra_pos x y fx fy ≠ 0) : ra_AA c fl E R x y fx fy =
    (ra_fr fx fy + ra_K R x y fx fy (ra_pos x y fx fy),
     fun i => if i < ra_fr fx fy then ra_F x y fx fy i else ra_w R x y fx fy (ra_pos x y fx fy) (i - ra_fr fx fy + (3 - ra_K R x y fx fy (ra_pos x y fx fy))),
     fun n => ra_pl fl (ra_w R x y fx fy (ra_pos x y fx fy) 1) (ra_w R x y fx fy (ra_pos x y fx fy) 2)
       (R (ra_cx x y fx fy (n / (ra_w R x y fx fy (ra_pos x y fx fy) 0 * ra_w R x y fx fy (ra_pos x y fx fy) 1 * ra_w R x y fx fy (ra_pos x y fx fy) 2)))
          (ra_cy x y fx fy (n / (ra_w R x y fx fy (ra_pos x y fx fy) 0 * ra_w R x y fx fy (ra_pos x y fx fy) 1 * ra_w R x y fx fy (ra_pos x y fx fy) 2))))
       (n % (ra_w R x y fx fy (ra_pos x y fx fy) 0 * ra_w R x y fx fy (ra_pos x y fx fy) 1 * ra_w R x y fx fy (ra_pos x y fx fy) 2))) := by
  unfold ra_AA; rw [if_neg p]
theorem ra_AA_0 (p : ra_pos x y fx fy = 0) : ra_AA c fl E R x y fx fy =
    (ra_fr fx fy + (ra_S0 c fl E R x y fx fy).1, fun i => if i < ra_fr fx fy then ra_F x y fx fy i else (ra_S0 c fl E R x y fx fy).2.1 (i - ra_fr fx fy), fun _ => 0) := by
  unfold ra_AA; rw [if_pos p]
theorem ra_H_AA {val : Nat → Nat → Int32} {w : Nat → Nat} {P K M : Nat} (p : 0 < ra_pos x y fx fy) (eP : P = ra_pos x y fx fy) (eK : K = ra_K R x y fx fy P) (ew : w = ra_w R x y fx fy P)
    (eM : M = w 0 * w 1 * w 2) (ev : val = fun q i => ra_pl fl (w 1) (w 2) (R (ra_cx x y fx fy q) (ra_cy x y fx fy q)) i)
    (k3 : K ≤ 3) (hr : rk t = nI (ra_fr fx fy + K))
    (hd : ∀ i, i < ra_fr fx fy + K → dm (t * 3 + i) = nI (if i < ra_fr fx fy then ra_F x y fx fy i else w (i - ra_fr fx fy + (3 - K))))
    (ha : ∀ n, n < P * M → am (t * 32 + n) = val (n / M) (n % M)) : ra_H rk dm am t (ra_AA c fl E R x y fx fy) := by
  subst ev eM ew eK eP
  rw [ra_AA_n (Nat.ne_of_gt p)]
  refine ⟨hr, hd, fun i hi => ha i ?_⟩
  have e := ra_glue (ra_F x y fx fy) (fun i => ra_w R x y fx fy (ra_pos x y fx fy) (i + (3 - ra_K R x y fx fy (ra_pos x y fx fy)))) (ra_fr fx fy) (ra_K R x y fx fy (ra_pos x y fx fy))
  rw [ra_w3 k3 (ra_w_1 p)] at e
  exact Nat.lt_of_lt_of_le hi (Nat.le_of_eq e)
theorem ra_H_A0 {K : Nat} {G : Nat → Nat} (p : ra_pos x y fx fy = 0) (eK : K = (ra_S0 c fl E R x y fx fy).1) (eG : ∀ i, i < K → G i = (ra_S0 c fl E R x y fx fy).2.1 i)
    (hr : rk t = nI (ra_fr fx fy + K)) (hd : ∀ i, i < ra_fr fx fy + K → dm (t * 3 + i) = nI (if i < ra_fr fx fy then ra_F x y fx fy i else G (i - ra_fr fx fy))) :
    ra_H rk dm am t (ra_AA c fl E R x y fx fy) := by
  subst eK
  rw [ra_AA_0 p]
  refine ⟨hr, fun i hi => (hd i hi).trans ?_, fun i hi => ?_⟩
  · show nI _ = nI (if i < ra_fr fx fy then ra_F x y fx fy i else (ra_S0 c fl E R x y fx fy).2.1 (i - ra_fr fx fy))
    by_cases e : i < ra_fr fx fy
    · rw [if_pos e, if_pos e]
    · rw [if_neg e, if_neg e, eG _ (by have : i < ra_fr fx fy + _ := hi; omega)]
  · exfalso
    have e := ra_glue (ra_F x y fx fy) (ra_S0 c fl E R x y fx fy).2.1 (ra_fr fx fy) (ra_S0 c fl E R x y fx fy).1
    have hi' : i < ra_prod (ra_F x y fx fy) 0 (ra_fr fx fy) * ra_prod (ra_S0 c fl E R x y fx fy).2.1 0 (ra_S0 c fl E R x y fx fy).1 := Nat.lt_of_lt_of_le hi (Nat.le_of_eq e)
    have p' : ra_prod (ra_F x y fx fy) 0 (ra_fr fx fy) = 0 := p
    rw [p', Nat.zero_mul] at hi'
    omega
end
theorem ra_At_s {am am' : Nat → Int32} {b M q : Nat} {val : Nat → Nat → Int32} (h : ∀ n, n < q * M → am (b + n) = val (n / M) (n % M))
    (hk : ∀ n, n < q * M → am' (b + n) = am (b + n)) (hn : ∀ i, i < M → am' (b + (q * M + i)) = val q i) : ∀ n, n < (q + 1) * M → am' (b + n) = val (n / M) (n % M) := fun n h9 => by
  rcases ra_step h9 with z | ⟨z1, z2⟩
  · rw [hk n z, h n z]
  · obtain ⟨e1, e2⟩ := ra_divM z1 z2
    have := hn (n - q * M) (by omega)
    rw [show q * M + (n - q * M) = n by omega] at this
    rw [this, e1, e2]
/-- the positions are few -/
theorem ra_pos_le {c : Nat} {x y : ra_A} {fx fy : Nat} (hc : c ≤ 32) (wx : ra_W c x) (wy : ra_W c y) (hx : fx ≤ x.1) (hy : fy ≤ y.1) : ra_pos x y fx fy ≤ 32768 := by
  have h3 := ra_fr_3 wx wy hx hy
  refine Nat.le_trans (ra_prod_le (b := 32) _ (fun i hi => ?_)) (ra_p32 h3)
  rw [Nat.zero_add]
  exact Nat.le_trans (ra_F_le wx wy hx hy i hi) hc
theorem ra_size_le {c : Nat} {a : ra_A} {f : Nat} (hc : c ≤ 32) (w : ra_W c a) : ra_size a f ≤ 32768 := by
  have h3 : a.1 - f ≤ 3 := Nat.le_trans (Nat.sub_le _ _) w.1
  refine Nat.le_trans (ra_prod_le (b := 32) _ (fun i hi => ?_)) (ra_p32 h3)
  exact Nat.le_trans (w.2.1 (f + i) (by omega)) hc
theorem ra_S_3 {rk dm am rk' dm' am' : Nat → Int32} {s : Nat} (h : ra_S rk dm am rk' dm' am' s) {r : Nat} {d : Nat → Nat} (hr : r ≤ 3) (hd : ∀ i, i < r → dm (s * 3 + i) = nI (d i)) : ∀ i, i < r → dm' (s * 3 + i) = nI (d i) :=
  fun i hi => (h.2.1 i (by omega)).trans (hd i hi)
end
section
/-! numbers of either sign -/
theorem ra_t0 : (0 : Int32).toInt = 0 := rfl
theorem ra_abs_c {z : Int32} {c : Nat} (hc : c < 2 ^ 30) : (nI c < z ∨ z < -nI c) ↔ c < ra_abs z := by
  unfold ra_abs
  rw [Int32.lt_iff_toInt_lt, Int32.lt_iff_toInt_lt, nI_toInt (by omega), sb_negT (by omega)]
  omega
theorem ra_abs_p {z : Int32} (h : ¬ z < 0) : z = nI (ra_abs z) := by
  obtain ⟨j, hj, rfl⟩ := nI_of h
  unfold ra_abs
  rw [nI_toInt hj]
  rfl
theorem ra_abs_n {z : Int32} (h : z < 0) (hm : ra_abs z < 2 ^ 31) : -z = nI (ra_abs z) := by
  apply Int32.toInt_inj.mp
  rw [nI_toInt hm]
  unfold ra_abs at hm ⊢
  rw [Int32.lt_iff_toInt_lt, ra_t0] at h
  rw [Int32.toInt_neg, Int.bmod_eq_of_le (by omega) (by omega)]
  omega
theorem ra_idx_n {z : Int32} {n : Nat} (hn : n < 2 ^ 30) (h : z < 0) (g : ¬ z < -nI n) : nI n + z = nI (n - ra_abs z) ∧ n - ra_abs z < n := by
  rw [Int32.lt_iff_toInt_lt, sb_negT (by omega)] at g
  rw [Int32.lt_iff_toInt_lt, ra_t0] at h
  unfold ra_abs
  refine ⟨?_, by omega⟩
  apply Int32.toInt_inj.mp
  rw [nI_toInt (by omega), Int32.toInt_add, nI_toInt (by omega), Int.bmod_eq_of_le (by omega) (by omega)]
  omega
theorem ra_skip (a b d : Int32) : a - b + d = a + d - b := by grind
theorem ra_skip_p {n m k : Nat} (h : m ≤ n + k) : nI n - nI m + nI k = nI (n + k - m) := by
  rw [ra_skip, nI_add, pk_sub h]
theorem ra_skip_n {n m k : Nat} (hm : m < 2 ^ 30) (h : n + k < m) : nI n - nI m + nI k < 0 := by
  rw [ra_skip, nI_add]; exact pk_sneg hm h
/-- the item at k, the atom at i of it -/
theorem ra_item {z k i : Nat} (hi : i < z) : (k * z + i) / z = k ∧ (k * z + i) % z = i := by
  have p : 0 < z := by omega
  constructor
  · rw [Nat.mul_comm, Nat.mul_add_div p, Nat.div_eq_of_lt hi, Nat.add_zero]
  · rw [Nat.mul_comm, Nat.mul_add_mod, Nat.mod_eq_of_lt hi]
theorem ra_in3 {s0 s1 s2 i j k : Nat} (hi : i < s0) (hj : j < s1) (hk : k < s2) : (i * s1 + j) * s2 + k < s0 * s1 * s2 :=
  ra_part (ra_part hi (Nat.le_refl _) hj) (Nat.le_refl _) hk
theorem ra_pl_join {fl : Int32} {z : ra_A} {w1 w2 i j k : Nat} (hj : j < w1) (hk : k < w2) :
    ra_pl fl w1 w2 z ((i * w1 + j) * w2 + k) = if i < ra_lift z 0 ∧ j < ra_lift z 1 ∧ k < ra_lift z 2 then z.2.2 ((i * ra_lift z 1 + j) * ra_lift z 2 + k) else fl := by
  obtain ⟨a, b, d⟩ := ra_join (i := i) hj hk
  unfold ra_pl
  rw [a, b, d]
/-! comparisons with literals -/
theorem ra_ge {a b : Nat} (ha : a < 2 ^ 31) (hb : b < 2 ^ 31) : ¬ nI a ≤ nI b ↔ b < a := by rw [nI_leI ha hb]; omega
theorem ra_le3 {i : Nat} (h : i < 2 ^ 31) : (3 : Int32) ≤ nI i ↔ 3 ≤ i := nI_leI (a := 3) (by decide) h
theorem ra_le4 {i : Nat} (h : i < 2 ^ 31) : (4 : Int32) ≤ nI i ↔ 4 ≤ i := nI_leI (a := 4) (by decide) h
theorem ra_le32 {i : Nat} (h : i < 2 ^ 31) : (32 : Int32) ≤ nI i ↔ 32 ≤ i := nI_leI (a := 32) (by decide) h
theorem ra_le2 {i : Nat} (h : i < 2 ^ 31) : (2 : Int32) ≤ nI i ↔ 2 ≤ i := nI_leI (a := 2) (by decide) h
theorem ra_lt4 {i : Nat} (h : i < 2 ^ 31) : nI i < (4 : Int32) ↔ i < 4 := nI_ltI (b := 4) h (by decide)
theorem ra_lt3 {i : Nat} (h : i < 2 ^ 31) : nI i < (3 : Int32) ↔ i < 3 := nI_ltI (b := 3) h (by decide)
theorem ra_gt3 {i : Nat} (h : i < 2 ^ 31) : nI i ≤ (3 : Int32) ↔ i ≤ 3 := nI_leI (b := 3) h (by decide)
theorem ra_lt32 {i : Nat} (h : i < 2 ^ 31) : nI i < (32 : Int32) ↔ i < 32 := nI_ltI (b := 32) h (by decide)
theorem ra_lt0 {i : Nat} (h : i < 2 ^ 31) : nI i < (0 : Int32) ↔ False := ⟨fun z => nI_pos h z, False.elim⟩
theorem ra_ge0 {i : Nat} (h : i < 2 ^ 31) : (0 : Int32) ≤ nI i ↔ True := ⟨fun _ => True.intro, fun _ => nI_pos' h⟩
theorem ra_eq0 {i : Nat} (h : i < 2 ^ 31) : nI i = (0 : Int32) ↔ i = 0 := nI_eq (b := 0) h (by decide)
theorem ra_le0 {i : Nat} (h : i < 2 ^ 31) : nI i ≤ (0 : Int32) ↔ i = 0 := by
  rw [show (0 : Int32) = nI 0 from rfl, nI_leI h (by decide)]; omega
theorem ra_gt0 {i : Nat} (h : i < 2 ^ 31) : (0 : Int32) < nI i ↔ 0 < i := nI_ltI (a := 0) (by decide) h
theorem ra_eq1 {i : Nat} (h : i < 2 ^ 31) : nI i = (1 : Int32) ↔ i = 1 := nI_eq (b := 1) h (by decide)
/-! slots written anew, whole -/
theorem ra_H_sc {rk dm am : Nat → Int32} {t : Nat} {z : Int32} : ra_H (upd rk t 0) dm (upd am (t * 32) z) t (ra_sc z) := by
  refine ⟨pk_us, fun i hi => absurd hi (Nat.not_lt_zero i), fun i hi => ?_⟩
  have hi' : i < 1 := hi
  have : i = 0 := by omega
  subst this
  exact pk_us
theorem ra_S_sc {rk dm am : Nat → Int32} {t j : Nat} {z w : Int32} (h : j ≠ t) : ra_S rk dm am (upd rk t z) dm (upd am (t * 32) w) j :=
  ⟨pk_un h, fun _ _ => rfl, fun i hi => pk_un (by omega)⟩
theorem ra_H_list {rk dm am : Nat → Int32} {t n : Nat} {g a : Nat → Int32} (ha : ∀ i, i < n → g i = a i) : ra_H (upd rk t 1) (upd dm (t * 3) (nI n)) (ra_blk am (t * 32) n g) t (1, fun _ => n, a) := by
  refine ⟨pk_us, fun i hi => ?_, fun i hi => ?_⟩
  · have hi' : i < 1 := hi
    have : i = 0 := by omega
    subst this
    exact pk_us
  · have hi' : i < 1 * n := hi
    rw [ra_blk_in (by omega)]
    exact ha i (by omega)
theorem ra_S_list {rk dm am : Nat → Int32} {t n j : Nat} {z w : Int32} {g : Nat → Int32} (hn : n ≤ 32) (h : j ≠ t) : ra_S rk dm am (upd rk t z) (upd dm (t * 3) w) (ra_blk am (t * 32) n g) j :=
  ⟨pk_un h, fun i hi => pk_un (by omega), fun i hi => ra_blk_out (by omega)⟩
end
section
/-! what a level's arrays say (X) -/
def xv_V (xs ys xf yf fs fr : Nat → Int32) (L sx sy fx fy : Nat) : Prop :=
  xs L = nI sx ∧ ys L = nI sy ∧ xf L = nI fx ∧ yf L = nI fy ∧ fs L = nI (if fy < fx then sx else sy) ∧ fr L = nI (ra_fr fx fy)
def xv_D (wr wd : Nat → Int32) (L K : Nat) (w : Nat → Nat) : Prop := wr L = nI K ∧ ∀ i, i < 3 → wd (L * 3 + i) = nI (w i)
def xv_E (L : Nat) (xs ys xf yf fs fr wr wd xs' ys' xf' yf' fs' fr' wr' wd' : Nat → Int32) : Prop :=
  xs' L = xs L ∧ ys' L = ys L ∧ xf' L = xf L ∧ yf' L = yf L ∧ fs' L = fs L ∧ fr' L = fr L ∧ wr' L = wr L ∧ ∀ i, i < 3 → wd' (L * 3 + i) = wd (L * 3 + i)
theorem xv_E_r {L : Nat} {xs ys xf yf fs fr wr wd : Nat → Int32} : xv_E L xs ys xf yf fs fr wr wd xs ys xf yf fs fr wr wd :=
  ⟨rfl, rfl, rfl, rfl, rfl, rfl, rfl, fun _ _ => rfl⟩
theorem xv_E_t {L : Nat} {xs ys xf yf fs fr wr wd xs' ys' xf' yf' fs' fr' wr' wd' xs2 ys2 xf2 yf2 fs2 fr2 wr2 wd2 : Nat → Int32}
    (h : xv_E L xs ys xf yf fs fr wr wd xs' ys' xf' yf' fs' fr' wr' wd') (g : xv_E L xs' ys' xf' yf' fs' fr' wr' wd' xs2 ys2 xf2 yf2 fs2 fr2 wr2 wd2) :
    xv_E L xs ys xf yf fs fr wr wd xs2 ys2 xf2 yf2 fs2 fr2 wr2 wd2 := by
  obtain ⟨a1, a2, a3, a4, a5, a6, a7, a8⟩ := h
  obtain ⟨b1, b2, b3, b4, b5, b6, b7, b8⟩ := g
  exact ⟨b1.trans a1, b2.trans a2, b3.trans a3, b4.trans a4, b5.trans a5, b6.trans a6, b7.trans a7, fun i hi => (b8 i hi).trans (a8 i hi)⟩
theorem xv_V_E {L sx sy fx fy : Nat} {xs ys xf yf fs fr wr wd xs' ys' xf' yf' fs' fr' wr' wd' : Nat → Int32}
    (h : xv_E L xs ys xf yf fs fr wr wd xs' ys' xf' yf' fs' fr' wr' wd') (g : xv_V xs ys xf yf fs fr L sx sy fx fy) : xv_V xs' ys' xf' yf' fs' fr' L sx sy fx fy := by
  obtain ⟨a1, a2, a3, a4, a5, a6, a7, a8⟩ := h
  obtain ⟨b1, b2, b3, b4, b5, b6⟩ := g
  exact ⟨a1.trans b1, a2.trans b2, a3.trans b3, a4.trans b4, a5.trans b5, a6.trans b6⟩
theorem xv_D_E {L K : Nat} {w : Nat → Nat} {xs ys xf yf fs fr wr wd xs' ys' xf' yf' fs' fr' wr' wd' : Nat → Int32}
    (h : xv_E L xs ys xf yf fs fr wr wd xs' ys' xf' yf' fs' fr' wr' wd') (g : xv_D wr wd L K w) : xv_D wr' wd' L K w := by
  obtain ⟨a1, a2, a3, a4, a5, a6, a7, a8⟩ := h
  exact ⟨a7.trans g.1, fun i hi => (a8 i hi).trans (g.2 i hi)⟩
/-- the slots that what is done in a cell of level L leaves alone -/
def xv_P (L j : Nat) : Prop := j ≠ 10 ∧ (L = 0 → j ≠ 5 ∧ j ≠ 7 ∧ j ≠ 9)
/-- the slots that A at level L leaves alone -/
def xv_Q (L j : Nat) : Prop := xv_P L j ∧ j ≠ 4 + L ∧ j ≠ 6 + L ∧ j ≠ 8 + L
theorem xv_Q_1 {j : Nat} : xv_Q 1 j ↔ xv_P 0 j := by unfold xv_Q xv_P; omega
/-- the slot that has the frame -/
theorem xv_frame {rk dm am : Nat → Int32} {sx sy fx fy : Nat} {x y : ra_A} (hx : ra_H rk dm am sx x) (hy : ra_H rk dm am sy y) (hfx : fx ≤ x.1) (hfy : fy ≤ y.1) :
    ∀ i, i < ra_fr fx fy → dm ((if fy < fx then sx else sy) * 3 + i) = nI (ra_F x y fx fy i) := fun i hi => by
  unfold ra_fr at hi
  unfold ra_F
  by_cases e : fy < fx
  · rw [if_pos e] at hi ⊢; rw [if_pos e]; exact hx.2.1 i (by omega)
  · rw [if_neg e] at hi ⊢; rw [if_neg e]; exact hy.2.1 i (by omega)
end
section
/-! the primitives, from the arrays that a side has written to the picture -/
section
variable {rk dm am rk' dm' am' : Nat → Int32} {s t : Nat} {x y : ra_A} {fl : Int32} {c : Nat}
theorem ra_sum_congr {f g : Nat → Int32} : ∀ n, (∀ i, i < n → f i = g i) → ra_sum f n = ra_sum g n := by
  intro n
  induction n with
  | zero => intro _; rfl
  | succ n ih => intro h; rw [ra_sum, ra_sum, ih fun i hi => h i (by omega), h n (by omega)]
theorem ra_H_0 (hy : ra_H rk dm am s y) (h : 0 < ra_cnt y) : am (s * 32) = y.2.2 0 := hy.2.2 0 h
theorem ra_cnt_r0 (h : y.1 = 0) : ra_cnt y = 1 := (ra_it_0 h).2.2
theorem ra_P2 (hy : ra_H rk dm am s y) (hr : rk' t = 1) (hd : dm' (t * 3) = nI y.1) (ha : ∀ i, i < y.1 → am' (t * 32 + i) = dm (s * 3 + i)) : ra_H rk' dm' am' t (ra_PA fl 2 x y) := by
  refine ⟨hr, fun i hi => ?_, fun i hi => ?_⟩
  · have hi' : i < 1 := hi
    have : i = 0 := by omega
    subst this
    exact hd
  · have hi' : i < 1 * y.1 := hi
    exact (ha i (by omega)).trans (hy.2.1 i (by omega))
theorem ra_P3 (hy : ra_H rk dm am s y) (hr : rk' t = nI y.1) (hd : ∀ i, i < y.1 → dm' (t * 3 + i) = nI (y.2.1 i))
    (ha : ∀ n, n < ra_len y * ra_it y → am' (t * 32 + n) = am (s * 32 + ((ra_len y - 1 - n / ra_it y) * ra_it y + n % ra_it y))) : ra_H rk' dm' am' t (ra_PA fl 3 x y) := by
  refine ⟨hr, hd, fun n hn => ?_⟩
  have hn' : n < ra_len y * ra_it y := by rw [← ra_cnt_li]; exact hn
  have p : 0 < ra_it y := by
    cases Nat.eq_zero_or_pos (ra_it y) with
    | inl z => rw [z, Nat.mul_zero] at hn'; omega
    | inr z => exact z
  have q : 0 < ra_len y := by
    cases Nat.eq_zero_or_pos (ra_len y) with
    | inl z => rw [z, Nat.zero_mul] at hn'; omega
    | inr z => exact z
  rw [ha n hn']
  refine hy.2.2 _ ?_
  rw [ra_cnt_li]
  exact ra_part (Nat.lt_of_le_of_lt (Nat.sub_le _ _) (show ra_len y - 1 < ra_len y by omega)) (Nat.le_refl _) (Nat.mod_lt _ p)
theorem ra_P3_0 (h0 : y.1 = 0) (hy : ra_H rk dm am s y) (hr : rk' t = 0) (ha : am' (t * 32) = am (s * 32)) : ra_H rk' dm' am' t (ra_PA fl 3 x y) := by
  refine ⟨hr.trans ?_, fun i hi => ?_, fun i hi => ?_⟩
  · show (0 : Int32) = nI y.1
    rw [h0]; rfl
  · have hi' : i < y.1 := hi
    omega
  · have hi' : i < ra_cnt y := hi
    rw [ra_cnt_r0 h0] at hi'
    have : i = 0 := by omega
    subst this
    show am' (t * 32 + 0) = y.2.2 ((ra_len y - 1 - 0 / ra_it y) * ra_it y + 0 % ra_it y)
    rw [(ra_it_0 h0).1, (ra_it_0 h0).2.1]
    exact ha.trans (hy.2.2 0 (by rw [ra_cnt_r0 h0]; omega))
theorem ra_tail_cnt {a : Nat → Int32} : ra_cnt (y.1 - 1, fun i => y.2.1 (1 + i), a) = ra_it y := ra_prod_congr _ (fun i _ => by rw [Nat.zero_add])
theorem ra_P4 (hy : ra_H rk dm am s y) (hr : rk' t = nI (y.1 - 1)) (hd : ∀ i, i < y.1 - 1 → dm' (t * 3 + i) = nI (y.2.1 (1 + i)))
    (ha : ∀ i, i < ra_it y → am' (t * 32 + i) = ra_sum (fun j => am (s * 32 + (j * ra_it y + i))) (ra_len y)) : ra_H rk' dm' am' t (ra_PA fl 4 x y) := by
  refine ⟨hr, hd, fun i hi => ?_⟩
  have hi' : i < ra_it y := by rw [← ra_tail_cnt (y := y)]; exact hi
  rw [ha i hi']
  refine ra_sum_congr _ (fun j hj => hy.2.2 _ ?_)
  rw [ra_cnt_li]
  exact ra_part hj (Nat.le_refl _) hi'
theorem ra_P4_0 (h0 : y.1 = 0) (hy : ra_H rk dm am s y) (hr : rk' t = 0) (ha : am' (t * 32) = am (s * 32)) : ra_H rk' dm' am' t (ra_PA fl 4 x y) := by
  refine ⟨hr.trans ?_, fun i hi => ?_, fun i hi => ?_⟩
  · show (0 : Int32) = nI (y.1 - 1)
    rw [h0]; rfl
  · have hi' : i < y.1 - 1 := hi
    omega
  · have hi' : i < ra_it y := by rw [← ra_tail_cnt (y := y)]; exact hi
    rw [(ra_it_0 h0).1] at hi'
    have : i = 0 := by omega
    subst this
    show am' (t * 32 + 0) = ra_sum (fun j => y.2.2 (j * ra_it y + 0)) (ra_len y)
    rw [(ra_it_0 h0).1, (ra_it_0 h0).2.1]
    show am' (t * 32) = 0 + y.2.2 0
    rw [Int32.zero_add]
    exact ha.trans (hy.2.2 0 (by rw [ra_cnt_r0 h0]; omega))
theorem ra_P5 (hy : ra_H rk dm am s y) (hr : rk' t = 1) (hd : dm' (t * 3) = nI (ra_cnt y)) (ha : ∀ i, i < ra_cnt y → am' (t * 32 + i) = am (s * 32 + i)) : ra_H rk' dm' am' t (ra_PA fl 5 x y) := by
  refine ⟨hr, fun i hi => ?_, fun i hi => ?_⟩
  · have hi' : i < 1 := hi
    have : i = 0 := by omega
    subst this
    exact hd
  · have hi' : i < 1 * ra_cnt y := hi
    exact (ha i (by omega)).trans (hy.2.2 i (by omega))
theorem ra_P10 (hy : ra_H rk dm am s y) (hr : rk' t = nI (ra_cnt x)) (hd : ∀ i, i < ra_cnt x → dm' (t * 3 + i) = nI (x.2.2 i).toNatClampNeg)
    (ha : ∀ i, i < ra_prod (fun i => (x.2.2 i).toNatClampNeg) 0 (ra_cnt x) → am' (t * 32 + i) = if 0 < ra_cnt y then am (s * 32 + i % ra_cnt y) else fl) : ra_H rk' dm' am' t (ra_PA fl 10 x y) := by
  refine ⟨hr, hd, fun i hi => ?_⟩
  rw [ha i hi]
  show _ = if 0 < ra_cnt y then y.2.2 (i % ra_cnt y) else fl
  by_cases e : 0 < ra_cnt y
  · rw [if_pos e, if_pos e]; exact hy.2.2 _ (Nat.mod_lt _ e)
  · rw [if_neg e, if_neg e]
theorem ra_take_cnt {m : Nat} {a : Nat → Int32} : ra_cnt (if y.1 = 0 then 1 else y.1, fun i => if i = 0 then m else y.2.1 i, a) = m * ra_it y := by
  by_cases h0 : y.1 = 0
  · rw [(ra_it_0 h0).1, if_pos h0]; show 1 * m = m * 1; omega
  · rw [if_neg h0]
    have e := ra_cnt_1 (fun i => if i = 0 then m else y.2.1 i) (y.1 - 1)
    rw [show 1 + (y.1 - 1) = y.1 by omega] at e
    refine e.trans ?_
    show m * _ = m * _
    congr 1
    exact ra_prod_congr _ (fun i _ => if_neg (by omega))
theorem ra_P11 (hy : ra_H rk dm am s y) (hr : rk' t = nI (if y.1 = 0 then 1 else y.1)) (hd0 : dm' (t * 3) = nI (ra_abs (x.2.2 0)))
    (hd : ∀ i, 1 ≤ i → i < y.1 → dm' (t * 3 + i) = nI (y.2.1 i))
    (ha : ∀ n, n < ra_abs (x.2.2 0) * ra_it y → am' (t * 32 + n) = if ra_src (x.2.2 0) (ra_len y) (n / ra_it y) < ra_len y then am (s * 32 + (ra_src (x.2.2 0) (ra_len y) (n / ra_it y) * ra_it y + n % ra_it y)) else fl) :
    ra_H rk' dm' am' t (ra_PA fl 11 x y) := by
  refine ⟨hr, fun i hi => ?_, fun n hn => ?_⟩
  · show dm' (t * 3 + i) = nI (if i = 0 then ra_abs (x.2.2 0) else y.2.1 i)
    have hi' : i < (if y.1 = 0 then 1 else y.1) := hi
    by_cases e : i = 0
    · subst e; exact hd0
    · rw [if_neg e]
      refine hd i (by omega) ?_
      by_cases z : y.1 = 0
      · rw [if_pos z] at hi'; omega
      · rw [if_neg z] at hi'; exact hi'
  · have hn' : n < ra_abs (x.2.2 0) * ra_it y := by rw [← ra_take_cnt (y := y)]; exact hn
    rw [ha n hn']
    show _ = if ra_src (x.2.2 0) (ra_len y) (n / ra_it y) < ra_len y then y.2.2 (ra_src (x.2.2 0) (ra_len y) (n / ra_it y) * ra_it y + n % ra_it y) else fl
    by_cases e : ra_src (x.2.2 0) (ra_len y) (n / ra_it y) < ra_len y
    · rw [if_pos e, if_pos e]
      have p : 0 < ra_it y := by
        cases Nat.eq_zero_or_pos (ra_it y) with
        | inl z => rw [z, Nat.mul_zero] at hn'; omega
        | inr z => exact z
      refine hy.2.2 _ ?_
      rw [ra_cnt_li]
      exact ra_part e (Nat.le_refl _) (Nat.mod_lt _ p)
    · rw [if_neg e, if_neg e]
theorem ra_P12 (hy : ra_H rk dm am s y) (hi : ra_idx (x.2.2 0) (ra_len y) < ra_len y) (hr : rk' t = nI (y.1 - 1)) (hd : ∀ i, i < y.1 - 1 → dm' (t * 3 + i) = nI (y.2.1 (1 + i)))
    (ha : ∀ i, i < ra_it y → am' (t * 32 + i) = am (s * 32 + (ra_idx (x.2.2 0) (ra_len y) * ra_it y + i))) : ra_H rk' dm' am' t (ra_PA fl 12 x y) := by
  refine ⟨hr, hd, fun i h => ?_⟩
  have h' : i < ra_it y := by rw [← ra_tail_cnt (y := y)]; exact h
  rw [ha i h']
  refine hy.2.2 _ ?_
  rw [ra_cnt_li]
  exact ra_part hi (Nat.le_refl _) h'
/-! the items -/
theorem ra_it_le {a : ra_A} (hc : c ≤ 32) (w : ra_W c a) : ra_it a ≤ 1024 := by
  have h3 : a.1 - 1 ≤ 2 := by have := w.1; omega
  refine Nat.le_trans (ra_prod_le (b := 32) _ (fun i hi => ?_)) (Nat.le_trans (Nat.pow_le_pow_right (by decide) h3) (by decide))
  exact Nat.le_trans (w.2.1 (1 + i) (by omega)) hc
theorem ra_len_le {a : ra_A} (h1 : 1 ≤ c) (w : ra_W c a) : ra_len a ≤ c := by
  unfold ra_len
  by_cases e : a.1 = 0
  · rw [if_pos e]; exact h1
  · rw [if_neg e]; exact w.2.1 0 (by omega)
theorem ra_src_n {z : Int32} {n k : Nat} (h : z < 0) (g : ra_abs z ≤ n + k) : ra_src z n k = n + k - ra_abs z := by unfold ra_src; rw [if_pos h, if_pos g]
theorem ra_src_x {z : Int32} {n k : Nat} (h : z < 0) (g : ¬ ra_abs z ≤ n + k) : ra_src z n k = n := by unfold ra_src; rw [if_pos h, if_neg g]
theorem ra_src_p {z : Int32} {n k : Nat} (h : ¬ z < 0) : ra_src z n k = k := by unfold ra_src; rw [if_neg h]
end
end
section
/-! what a level's arrays say (the reference) -/
def yv_V (lx ly lm lfx lfy lfr lp lf : Nat → Int32) (L sx sy mon fx fy : Nat) (F : Nat → Nat) (P : Nat) : Prop :=
  lx L = nI sx ∧ ly L = nI sy ∧ lm L = nI mon ∧ lfx L = nI fx ∧ lfy L = nI fy ∧ lfr L = nI (ra_fr fx fy) ∧ lp L = nI P ∧ ∀ i, i < ra_fr fx fy → lf (L * 3 + i) = nI (F i)
/-- all that level L holds is as it was -/
def yv_E (L : Nat) (lx ly lm lfx lfy lfr lp lk lc lf lM lx' ly' lm' lfx' lfy' lfr' lp' lk' lc' lf' lM' : Nat → Int32) : Prop :=
  lx' L = lx L ∧ ly' L = ly L ∧ lm' L = lm L ∧ lfx' L = lfx L ∧ lfy' L = lfy L ∧ lfr' L = lfr L ∧ lp' L = lp L ∧ lk' L = lk L ∧ lc' L = lc L ∧ (∀ i, i < 3 → lf' (L * 3 + i) = lf (L * 3 + i)) ∧ (∀ i, i < 3 → lM' (L * 3 + i) = lM (L * 3 + i))
theorem yv_E_r {L : Nat} {lx ly lm lfx lfy lfr lp lk lc lf lM : Nat → Int32} : yv_E L lx ly lm lfx lfy lfr lp lk lc lf lM lx ly lm lfx lfy lfr lp lk lc lf lM :=
  ⟨rfl, rfl, rfl, rfl, rfl, rfl, rfl, rfl, rfl, fun _ _ => rfl, fun _ _ => rfl⟩
theorem yv_E_t {L : Nat} {lx ly lm lfx lfy lfr lp lk lc lf lM lx' ly' lm' lfx' lfy' lfr' lp' lk' lc' lf' lM' lx2 ly2 lm2 lfx2 lfy2 lfr2 lp2 lk2 lc2 lf2 lM2 : Nat → Int32} (h : yv_E L lx ly lm lfx lfy lfr lp lk lc lf lM lx' ly' lm' lfx' lfy' lfr' lp' lk' lc' lf' lM') (g : yv_E L lx' ly' lm' lfx' lfy' lfr' lp' lk' lc' lf' lM' lx2 ly2 lm2 lfx2 lfy2 lfr2 lp2 lk2 lc2 lf2 lM2) : yv_E L lx ly lm lfx lfy lfr lp lk lc lf lM lx2 ly2 lm2 lfx2 lfy2 lfr2 lp2 lk2 lc2 lf2 lM2 := by
  obtain ⟨a1, a2, a3, a4, a5, a6, a7, a8, a9, a10, a11⟩ := h
  obtain ⟨b1, b2, b3, b4, b5, b6, b7, b8, b9, b10, b11⟩ := g
  exact ⟨b1.trans a1, b2.trans a2, b3.trans a3, b4.trans a4, b5.trans a5, b6.trans a6, b7.trans a7, b8.trans a8, b9.trans a9, fun i hi => (b10 i hi).trans (a10 i hi), fun i hi => (b11 i hi).trans (a11 i hi)⟩
theorem yv_V_E {L sx sy mon fx fy P : Nat} {F : Nat → Nat} {lx ly lm lfx lfy lfr lp lk lc lf lM lx' ly' lm' lfx' lfy' lfr' lp' lk' lc' lf' lM' : Nat → Int32} (h3 : ra_fr fx fy ≤ 3) (h : yv_E L lx ly lm lfx lfy lfr lp lk lc lf lM lx' ly' lm' lfx' lfy' lfr' lp' lk' lc' lf' lM') (g : yv_V lx ly lm lfx lfy lfr lp lf L sx sy mon fx fy F P) : yv_V lx' ly' lm' lfx' lfy' lfr' lp' lf' L sx sy mon fx fy F P := by
  obtain ⟨a1, a2, a3, a4, a5, a6, a7, a8, a9, a10, a11⟩ := h
  obtain ⟨b1, b2, b3, b4, b5, b6, b7, b8⟩ := g
  exact ⟨a1.trans b1, a2.trans b2, a3.trans b3, a4.trans b4, a5.trans b5, a6.trans b6, a7.trans b7, fun i hi => (a10 i (by omega)).trans (b8 i hi)⟩
/-- an axis of a shape lifted to K axes -/
theorem ra_lift_K {z : ra_A} {K i : Nat} (hz : z.1 ≤ K) (hK : K ≤ 3) (hi : i < K) : ra_lift z (i + (3 - K)) = if i < K - z.1 then 1 else z.2.1 (i - (K - z.1)) := by
  unfold ra_lift
  by_cases e : i < K - z.1
  · rw [if_pos e, if_pos (by omega)]
  · rw [if_neg e, if_neg (by omega), show i + (3 - K) - (3 - z.1) = i - (K - z.1) by omega]
theorem ra_fc_fit {x : ra_A} {d : Nat} (ha : x.1 ≤ 3) (hd : d ≤ 3) : x.1 - (x.1 - ra_eff (nI d) x.1) ≤ d := by
  rw [ra_eff_n (by omega) (by omega)]
  split <;> omega
end
section
/-! X: the methods that only read -/
section
variable {c : Nat} {fv oa ol ov : Int32} {rk dm am xs ys xf yf fs fr wr wd : Nat → Int32}
theorem xm_product {post : Int32 → Prop} {s f e : Nat} {d : Nat → Nat} (hs : s < 12) (hf : f ≤ 3) (he : e ≤ 3) (hd : ∀ i, f ≤ i → i < e → dm (s * 3 + i) = nI (d i))
    (hp : post (nI (ra_prod d f (e - f)))) : wpX_product post (nI c, fv, oa, ol, ov, rk, dm, am, xs, ys, xf, yf, fs, fr, wr, wd) (nI s) (nI f) (nI e) := by
  unfold wpX_product
  refine ra_loop (fun n i => wX_product_6 post (nI s) (nI e) (nI c) fv oa ol ov rk dm am xs ys xf yf fs fr wr wd n (nI (ra_prod d f i)) (nI (f + i))) (e - f) (fun n => ?_) (fun n i hi ih => ?_) 0 (Nat.zero_le _)
  · simp only [wX_product_6]
    exact br_t (nI_le (by omega) (by omega)) hp
  · simp (disch := omega) only [wX_product_6, ra_m3, nI_add, nI_clamp, ra_inI, true_and, forall_eq, nI_1]
    refine br_f (nI_ge (by omega) (by omega)) ?_
    rw [hd (f + i) (by omega) (by omega), pk_mul]
    exact ih
theorem xm_limitError {post : Int32 → Prop} {s r : Nat} {d : Nat → Nat} (hc : c ≤ 32) (hs : s < 12) (hr : r ≤ 3) (er : rk s = nI r) (hd : ∀ i, i < r → dm (s * 3 + i) = nI (d i))
    (hb : ∀ i, i < r → d i < 2 ^ 31) (hp : post (if ra_lim c d r = true then -4 else 0)) : wpX_limitError post (nI c, fv, oa, ol, ov, rk, dm, am, xs, ys, xf, yf, fs, fr, wr, wd) (nI s) := by
  unfold wpX_limitError
  have key : ∀ k i, i + k = r → (∀ j, j < i → d j ≤ c) → ∀ n, wX_limitError_4 post (nI s) (nI c) fv oa ol ov rk dm am xs ys xf yf fs fr wr wd (n + k + 1) (nI (ra_prod d 0 i)) (nI i) := by
    intro k
    induction k with
    | zero =>
      intro i hi h n
      have hi' : i = r := by omega
      subst hi'
      have hb2 : ra_prod d 0 i ≤ 32768 := Nat.le_trans (ra_prod_le (b := 32) _ (fun j hj => by rw [Nat.zero_add]; exact Nat.le_trans (h j hj) hc)) (ra_p32 hr)
      rw [ra_lim_le h] at hp
      simp (disch := omega) only [wX_limitError_4, nI_clamp, ra_inI, true_and, er]
      refine br_t (nI_le (Nat.le_refl _) (by omega)) ?_
      by_cases z : c < ra_prod d 0 i
      · rw [if_pos (decide_eq_true z)] at hp
        exact br_f (nI_ge z (by omega)) hp
      · rw [if_neg (fun y => z (of_decide_eq_true y))] at hp
        exact br_t (nI_le (by omega) (by omega)) hp
    | succ k ih =>
      intro i hi h n
      have hb1 := hb i (by omega)
      rw [wX_limitError_4]
      simp (disch := omega) only [ra_m3, nI_add, nI_clamp, ra_inI, true_and, er, hd i (by omega), forall_eq, nI_1]
      refine br_f (nI_ge (by omega) (by omega)) ?_
      by_cases z : c < d i
      · have e : ra_lim c d r = true := by
          unfold ra_lim
          rw [ra_any_t r i (by omega) (decide_eq_true z), Bool.true_or]
        rw [e, if_pos rfl] at hp
        exact br_f (nI_ge z (by omega)) hp
      · refine br_t (nI_le (by omega) (by omega)) ?_
        rw [pk_mul]
        have := ih (i + 1) (by omega) (fun j hj => by
          by_cases y : j = i
          · subst y; omega
          · exact h j (by omega)) n
        rw [ra_prod, Nat.zero_add] at this
        exact this
  exact ⟨_, key r 0 (Nat.zero_add r) (fun j hj => absurd hj (Nat.not_lt_zero j)) 0⟩
theorem xm_cellRank {post : Int32 → Prop} {a : Nat} {v : Int32} (ha : a ≤ 3) (hp : post (nI (ra_eff v a))) : wpX_cellRank post (nI c, fv, oa, ol, ov, rk, dm, am, xs, ys, xf, yf, fs, fr, wr, wd) (nI a) v := by
  unfold wpX_cellRank
  by_cases h : v < 0
  · refine br_t h ?_
    by_cases g : nI a + v ≤ 0
    · rw [ra_eff_z ha h (Int32.not_lt.mpr g)] at hp
      exact br_t g hp
    · rw [← ra_eff_p ha h (Int32.not_le.mp g)] at hp
      exact br_f g hp
  · refine br_f h ?_
    by_cases g : nI a ≤ v
    · rw [ra_eff_h h (Int32.not_lt.mpr g)] at hp
      exact br_t g hp
    · rw [← ra_eff_l h (Int32.not_le.mp g)] at hp
      exact br_f g hp
theorem xm_leftRank {post : Int32 → Prop} {v : Nat} (hv : v ≤ 12) (hp : post (nI (ra_dL v))) : wpX_leftRank post (nI c, fv, oa, ol, ov, rk, dm, am, xs, ys, xf, yf, fs, fr, wr, wd) (nI v) := by
  unfold wpX_leftRank
  unfold ra_dL at hp
  by_cases e : v = 10
  · rw [if_pos e] at hp
    subst e
    exact br_t rfl hp
  · rw [if_neg e] at hp
    exact br_f (fun z => e ((nI_eq (b := 10) (by omega) (by decide)).mp z)) hp
theorem xm_rightRank {post : Int32 → Prop} {v : Nat} (hv : v ≤ 12) (hp : post (nI (ra_dR v))) : wpX_rightRank post (nI c, fv, oa, ol, ov, rk, dm, am, xs, ys, xf, yf, fs, fr, wr, wd) (nI v) := by
  unfold wpX_rightRank wX_rightRank_21 wX_rightRank_25 wX_rightRank_26
  match v, hv with
  | 0, _ => exact br_t rfl (br_f (by decide) hp)
  | 1, _ => exact br_f (by decide) (br_t rfl (br_f (by decide) hp))
  | 2, _ => exact br_f (by decide) (br_f (by decide) (br_t (by decide) (br_t rfl hp)))
  | 3, _ => exact br_f (by decide) (br_f (by decide) (br_t (by decide) (br_t rfl hp)))
  | 4, _ => exact br_f (by decide) (br_f (by decide) (br_t (by decide) (br_t rfl hp)))
  | 5, _ => exact br_f (by decide) (br_f (by decide) (br_t (by decide) (br_t rfl hp)))
  | 6, _ => exact br_f (by decide) (br_f (by decide) (br_f (by decide) (br_f (by decide) (br_f (by decide) hp))))
  | 7, _ => exact br_f (by decide) (br_f (by decide) (br_f (by decide) (br_f (by decide) (br_f (by decide) hp))))
  | 8, _ => exact br_f (by decide) (br_f (by decide) (br_f (by decide) (br_f (by decide) (br_f (by decide) hp))))
  | 9, _ => exact br_f (by decide) (br_f (by decide) (br_f (by decide) (br_f (by decide) (br_f (by decide) hp))))
  | 10, _ => exact br_f (by decide) (br_f (by decide) (br_f (by decide) (br_t (by decide) (br_t rfl hp))))
  | 11, _ => exact br_f (by decide) (br_f (by decide) (br_f (by decide) (br_t (by decide) (br_t rfl hp))))
  | 12, _ => exact br_f (by decide) (br_f (by decide) (br_f (by decide) (br_t (by decide) (br_t rfl hp))))
theorem xm_liftedAxis {post : Int32 → Prop} {s i : Nat} {z : ra_A} (hs : s < 12) (hz : z.1 ≤ 3) (h : ra_H rk dm am s z) (hi : i < 3) (hp : post (nI (ra_lift z i))) : wpX_liftedAxis post (nI c, fv, oa, ol, ov, rk, dm, am, xs, ys, xf, yf, fs, fr, wr, wd) (nI s) (nI i) := by
  unfold wpX_liftedAxis
  dsimp only
  have e3 : (3 : Int32) - nI z.1 = nI (3 - z.1) := pk_sub (a := 3) hz
  refine ⟨vp_in_nI hs (by decide), ?_⟩
  rw [nI_clamp (by omega), h.1, e3]
  unfold ra_lift at hp
  by_cases g : i < 3 - z.1
  · rw [if_pos g] at hp
    exact nm_e (br_f (Int32.not_le.mpr (pk_sneg (by omega) g)) hp)
  · rw [if_neg g] at hp
    refine nm_r (pk_sub (by omega)) (br_t (nI_pos' (by omega)) ?_)
    rw [ra_m3, nI_add, nI_clamp (by omega), h.2.1 _ (by omega)]
    exact ⟨vp_in_nI (by omega) (by decide), hp⟩
theorem xm_cellNumber {post : Int32 → Prop} {L g q sl r : Nat} {F : Nat → Nat} (hL : L < 2) (hfs : fs L = nI sl) (hfr : fr L = nI r) (hsl : sl < 12) (h3 : r ≤ 3) (hg : g ≤ 3)
    (hF : ∀ i, i < r → dm (sl * 3 + i) = nI (F i)) (h0 : 0 < ra_prod F g (r - g)) (hb : ra_prod F g (r - g) < 2 ^ 31) (hq : q < 2 ^ 31)
    (hp : post (nI (q / ra_prod F g (r - g)))) : wpX_cellNumber post (nI c, fv, oa, ol, ov, rk, dm, am, xs, ys, xf, yf, fs, fr, wr, wd) (nI L) (nI g) (nI q) := by
  unfold wpX_cellNumber
  dsimp only
  rw [nI_clamp (by omega), hfs, hfr]
  refine ⟨vp_in_nI hL (by decide), vp_in_nI hL (by decide), ?_⟩
  refine xm_product hsl hg h3 (fun i _ hi => hF i hi) ?_
  refine br_f (nI_nle h0 hb) ⟨nI_ne0 h0 hb, ?_⟩
  rw [pk_div hq h0 hb]
  exact hp
theorem xm_isRegister {post : Int32 → Prop} {p : Int32} (h0 : p < 0 ∨ 4 ≤ p → post 0) (h1 : ∀ s : Nat, s < 4 → p = nI s → post 1) : wpX_isRegister post (nI c, fv, oa, ol, ov, rk, dm, am, xs, ys, xf, yf, fs, fr, wr, wd) p := by
  unfold wpX_isRegister
  by_cases a : p < 0
  · exact br_t a (h0 (.inl a))
  · refine br_f a ?_
    by_cases b : 4 ≤ p
    · exact br_t b (h0 (.inr b))
    · obtain ⟨s, hs, rfl⟩ := nI_of a
      exact br_f b (h1 s (by rw [ra_le4 hs] at b; omega) rfl)
end
end
section
/-! X: the methods that write one slot -/
section
variable {c : Nat} {fv oa ol ov : Int32} {rk dm am xs ys xf yf fs fr wr wd : Nat → Int32}
theorem xm_copyAxes {post : SX → Prop} {s f t r : Nat} (hs : s < 12) (ht : t < 12) (hst : s ≠ t) (hr : r ≤ 3) (hf : f ≤ 3) (er : rk s = nI r)
    (hp : post (nI c, fv, oa, ol, ov, upd rk t (nI (r - f)), ra_blk dm (t * 3) (r - f) (fun i => dm (s * 3 + f + i)), am, xs, ys, xf, yf, fs, fr, wr, wd)) : wpX_copyAxes post (nI c, fv, oa, ol, ov, rk, dm, am, xs, ys, xf, yf, fs, fr, wr, wd) (nI s) (nI f) (nI t) := by
  have lp : ∃ n, wX_copyAxes_27 post (nI s) (nI f) (nI t) (nI (r - f)) (nI c) fv oa ol ov n 0 rk dm am xs ys xf yf fs fr wr wd := by
    refine ra_loop0 (fun n i => wX_copyAxes_27 post (nI s) (nI f) (nI t) (nI (r - f)) (nI c) fv oa ol ov n (nI i) rk (ra_blk dm (t * 3) i (fun i => dm (s * 3 + f + i))) am xs ys xf yf fs fr wr wd) (r - f) (fun n => ?_) (fun n i hi ih => ?_) (fun n h => ?_)
    · simp (disch := omega) only [wX_copyAxes_27, nI_clamp, ra_inI, true_and, forall_eq]
      exact br_t (nI_le (Nat.le_refl _) (by omega)) hp
    · simp (disch := omega) only [wX_copyAxes_27, ra_m3, nI_add, nI_clamp, ra_inI, true_and, forall_eq, nI_1]
      refine br_f (nI_ge hi (by omega)) ?_
      rw [ra_blk_out (by omega), ra_blk_s rfl]
      exact ih
    · rw [ra_blk_0] at h
      exact h
  unfold wpX_copyAxes
  dsimp only
  rw [nI_clamp (by omega), er]
  refine ⟨vp_in_nI hs (by decide), ?_⟩
  by_cases h : r ≤ f
  · rw [show r - f = 0 by omega] at lp
    exact br_t (nI_le h (by omega)) lp
  · exact br_f (nI_ge (by omega) (by omega)) ⟨vp_in_nI hs (by decide), nm_r (pk_sub (by omega)) lp⟩
theorem xm_copyCell {post : SX → Prop} {s f p t : Nat} {a : ra_A} (hc : c ≤ 32) (w : ra_W c a) (h : ra_H rk dm am s a) (hs : s < 12) (ht : t < 12) (hst : s ≠ t) (hf : f ≤ a.1) (hpf : p < ra_prod a.2.1 0 f)
    (hp : ∀ rk' dm' am', ra_H rk' dm' am' t (ra_cell a f p) → (∀ j, j ≠ t → ra_S rk dm am rk' dm' am' j) → post (nI c, fv, oa, ol, ov, rk', dm', am', xs, ys, xf, yf, fs, fr, wr, wd)) : wpX_copyCell post (nI c, fv, oa, ol, ov, rk, dm, am, xs, ys, xf, yf, fs, fr, wr, wd) (nI s) (nI f) (nI p) (nI t) := by
  have h3 := w.1
  have wz := (ra_cell_W (p := p) w hf hpf).2.2
  rw [ra_cell_cnt] at wz
  have hin : ∀ i, i < ra_size a f → p * ra_size a f + i < 32 := fun i hi => Nat.lt_of_lt_of_le (ra_cell_in hf hpf hi) (Nat.le_trans w.2.2 hc)
  unfold wpX_copyCell
  refine xm_copyAxes hs ht hst h3 (by omega) h.1 ?_
  dsimp only
  rw [nI_clamp (by omega), pk_us]
  refine ⟨vp_in_nI ht (by decide), ?_⟩
  refine xm_product (d := fun i => a.2.1 (f + i)) (f := 0) ht (by decide) (by omega) (fun i _ hi => ?_) ?_
  · rw [ra_blk_in hi, Nat.add_assoc, h.2.1 (f + i) (by omega)]
  rw [show ra_prod (fun i => a.2.1 (f + i)) 0 (a.1 - f - 0) = ra_size a f from ra_cell_cnt a f p]
  have fin : post (nI c, fv, oa, ol, ov, upd rk t (nI (a.1 - f)), ra_blk dm (t * 3) (a.1 - f) (fun i => dm (s * 3 + f + i)), ra_blk am (t * 32) (ra_size a f) (fun i => am (s * 32 + p * ra_size a f + i)), xs, ys, xf, yf, fs, fr, wr, wd) := by
    refine hp _ _ _ ⟨pk_us, fun i hi => ?_, fun i hi => ?_⟩ (fun j hj => ra_S_blk (by omega) (by omega) hj)
    · have hi' : i < a.1 - f := hi
      rw [ra_blk_in hi', Nat.add_assoc, h.2.1 (f + i) (by omega)]; rfl
    · rw [ra_cell_cnt] at hi
      rw [ra_blk_in hi, Nat.add_assoc, h.2.2 _ (ra_cell_in hf hpf hi)]; rfl
  refine ra_loop0 (fun n i => wX_copyCell_27 post (nI s) (nI p) (nI t) (nI (ra_size a f)) (nI c) fv oa ol ov n (nI i) (upd rk t (nI (a.1 - f))) (ra_blk dm (t * 3) (a.1 - f) (fun i => dm (s * 3 + f + i))) (ra_blk am (t * 32) i (fun i => am (s * 32 + p * ra_size a f + i))) xs ys xf yf fs fr wr wd) (ra_size a f) (fun n => ?_) (fun n i hi ih => ?_) (fun n h => ?_)
  · simp only [wX_copyCell_27]
    exact br_t (nI_le (Nat.le_refl _) (by omega)) fin
  · have hi2 := hin i hi
    simp (disch := omega) only [wX_copyCell_27, ra_m32, pk_mul, nI_add, nI_clamp, ra_inI, true_and, forall_eq, nI_1]
    refine br_f (nI_ge hi (by omega)) ?_
    rw [ra_blk_out (by omega), ra_blk_s rfl]
    exact ih
  · rw [ra_blk_0] at h
    exact h
theorem xm_fillCell {post : Int32 → SX → Prop} {s f t : Nat} {a : ra_A} (hc : c ≤ 32) (w : ra_W c a) (h : ra_H rk dm am s a) (hs : s < 12) (ht : t < 12) (hst : s ≠ t) (hf : f ≤ a.1)
    (hp : ∀ rk' dm' am', (ra_size a f ≤ c → ra_H rk' dm' am' t (ra_fc fv a f)) → (∀ j, j ≠ t → ra_S rk dm am rk' dm' am' j) → post (if ra_size a f ≤ c then 1 else 0) (nI c, fv, oa, ol, ov, rk', dm', am', xs, ys, xf, yf, fs, fr, wr, wd)) :
    wpX_fillCell post (nI c, fv, oa, ol, ov, rk, dm, am, xs, ys, xf, yf, fs, fr, wr, wd) (nI s) (nI f) (nI t) := by
  have h3 := w.1
  have hz := ra_size_le (f := f) hc w
  unfold wpX_fillCell
  refine xm_copyAxes hs ht hst h3 (by omega) h.1 ?_
  dsimp only
  rw [nI_clamp (by omega), pk_us]
  refine ⟨vp_in_nI ht (by decide), ?_⟩
  refine xm_product (d := fun i => a.2.1 (f + i)) (f := 0) ht (by decide) (by omega) (fun i _ hi => ?_) ?_
  · rw [ra_blk_in hi, Nat.add_assoc, h.2.1 (f + i) (by omega)]
  rw [show ra_prod (fun i => a.2.1 (f + i)) 0 (a.1 - f - 0) = ra_size a f from ra_cell_cnt a f 0]
  by_cases g : ra_size a f ≤ c
  · refine br_t (nI_le g (by omega)) ?_
    have fin : post 1 (nI c, fv, oa, ol, ov, upd rk t (nI (a.1 - f)), ra_blk dm (t * 3) (a.1 - f) (fun i => dm (s * 3 + f + i)), ra_blk am (t * 32) (ra_size a f) (fun _ => fv), xs, ys, xf, yf, fs, fr, wr, wd) := by
      have := hp _ _ (ra_blk am (t * 32) (ra_size a f) (fun _ => fv)) (fun _ => (⟨pk_us, fun i hi => ?_, fun i hi => ?_⟩ : ra_H (upd rk t (nI (a.1 - f))) (ra_blk dm (t * 3) (a.1 - f) (fun i => dm (s * 3 + f + i))) _ t (ra_fc fv a f))) (fun j hj => ra_S_blk (by omega) (by omega) hj)
      · rw [if_pos g] at this
        exact this
      · have hi' : i < a.1 - f := hi
        rw [ra_blk_in hi', Nat.add_assoc, h.2.1 (f + i) (by omega)]; rfl
      · rw [ra_fc_cnt] at hi
        rw [ra_blk_in hi]; rfl
    refine ra_loop0 (fun n i => wX_fillCell_35 post (nI t) (nI (ra_size a f)) (nI c) fv oa ol ov n (nI i) (upd rk t (nI (a.1 - f))) (ra_blk dm (t * 3) (a.1 - f) (fun i => dm (s * 3 + f + i))) (ra_blk am (t * 32) i (fun _ => fv)) xs ys xf yf fs fr wr wd) (ra_size a f) (fun n => ?_) (fun n i hi ih => ?_) (fun n h => ?_)
    · simp only [wX_fillCell_35]
      exact br_t (nI_le (Nat.le_refl _) (by omega)) fin
    · simp (disch := omega) only [wX_fillCell_35, ra_m32, nI_add, nI_clamp, ra_inI, true_and, forall_eq, nI_1]
      refine br_f (nI_ge hi (by omega)) ?_
      rw [ra_blk_s rfl]
      exact ih
    · rw [ra_blk_0] at h
      exact h
  · refine br_f (nI_ge (by omega) (by omega)) ?_
    have := hp (upd rk t (nI (a.1 - f))) (ra_blk dm (t * 3) (a.1 - f) (fun i => dm (s * 3 + f + i))) am (fun z => absurd z g) (fun j hj => ⟨pk_un hj, fun i hi => ra_blk_out (by omega), fun _ _ => rfl⟩)
    rw [if_neg g] at this
    exact this
end
end
section
/-! X: the methods of a level -/
section
variable {c : Nat} {fv oa ol ov : Int32} {rk dm am xs ys xf yf fs fr wr wd : Nat → Int32}
theorem ra_num_pos {x y : ra_A} {fx fy q g : Nat} (hg : g ≤ ra_fr fx fy) (hq : q < ra_pos x y fx fy) : 0 < ra_prod (ra_F x y fx fy) g (ra_fr fx fy - g) := by
  have e := ra_prod_add (ra_F x y fx fy) 0 g (ra_fr fx fy - g)
  rw [Nat.add_sub_cancel' hg, Nat.zero_add] at e
  have p : 0 < ra_prod (ra_F x y fx fy) 0 (ra_fr fx fy) := Nat.lt_of_le_of_lt (Nat.zero_le q) hq
  rw [e] at p
  exact Nat.pos_of_mul_pos_left p
theorem ra_num_b {c : Nat} {x y : ra_A} {fx fy g : Nat} (hc : c ≤ 32) (wx : ra_W c x) (wy : ra_W c y) (hfx : fx ≤ x.1) (hfy : fy ≤ y.1) : ra_prod (ra_F x y fx fy) g (ra_fr fx fy - g) ≤ 32768 := by
  have h3 := ra_fr_3 wx wy hfx hfy
  refine Nat.le_trans (ra_prod_le (b := 32) _ (fun i hi => ?_)) (ra_p32 (show ra_fr fx fy - g ≤ 3 by omega))
  exact Nat.le_trans (ra_F_le wx wy hfx hfy (g + i) (by omega)) hc
theorem xm_fetchCells {post : SX → Prop} {L q sx sy fx fy : Nat} {x y : ra_A} (hL : L < 2) (hc : c ≤ 32) (hV : xv_V xs ys xf yf fs fr L sx sy fx fy)
    (hx : ra_H rk dm am sx x) (hy : ra_H rk dm am sy y) (wx : ra_W c x) (wy : ra_W c y) (hfx : fx ≤ x.1) (hfy : fy ≤ y.1) (hd : ra_dis x y (if fx < fy then fx else fy) = false)
    (hq : q < ra_pos x y fx fy) (hsx : sx < 12) (hsy : sy < 12) (qx : xv_Q L sx) (qy : xv_Q L sy)
    (hp : ∀ rk' dm' am', ra_H rk' dm' am' (4 + L) (ra_cx x y fx fy q) → ra_H rk' dm' am' (6 + L) (ra_cy x y fx fy q) → (∀ j, j ≠ 4 + L → j ≠ 6 + L → ra_S rk dm am rk' dm' am' j) → post (nI c, fv, oa, ol, ov, rk', dm', am', xs, ys, xf, yf, fs, fr, wr, wd)) :
    wpX_fetchCells post (nI c, fv, oa, ol, ov, rk, dm, am, xs, ys, xf, yf, fs, fr, wr, wd) (nI L) (nI q) := by
  obtain ⟨v1, v2, v3, v4, v5, v6⟩ := hV
  have h3x := wx.1
  have h3y := wy.1
  have hpos := ra_pos_le hc wx wy hfx hfy
  have fr3 := ra_fr_3 wx wy hfx hfy
  have hF := xv_frame hx hy hfx hfy
  have hsl : (if fy < fx then sx else sy) < 12 := by split <;> assumption
  have gx := ra_fr_x fx fy
  have gy := ra_fr_y fx fy
  have bx := ra_num_b (g := fx) hc wx wy hfx hfy
  have bY := ra_num_b (g := fy) hc wx wy hfx hfy
  obtain ⟨-, x4, x6, -⟩ := qx
  obtain ⟨-, y4, y6, -⟩ := qy
  unfold wpX_fetchCells
  simp (disch := omega) only [nI_clamp, ra_inI, true_and, v1, v3, v4, ra_k4, ra_k6]
  refine xm_cellNumber hL v5 v6 hsl fr3 (by omega) hF (ra_num_pos gx hq) (by omega) (by omega) ?_
  refine xm_cellNumber hL v5 v6 hsl fr3 (by omega) hF (ra_num_pos gy hq) (by omega) (by omega) ?_
  refine xm_copyCell hc wx hx hsx (by omega) x4 hfx (ra_numx hd hq) ?_
  intro rk1 dm1 am1 h4 hS1
  dsimp only
  rw [v2, v4]
  refine xm_copyCell hc wy (ra_H_S hy wy hc (hS1 sy y4)) hsy (by omega) y6 hfy (ra_numy hd hq) ?_
  intro rk2 dm2 am2 h6 hS2
  exact hp rk2 dm2 am2 (ra_H_S h4 (ra_cx_W wx hfx hd hq) hc (hS2 _ (by omega))) h6 (fun j a b => ra_S_t (hS1 j a) (hS2 j b))
theorem xm_fillCells {post : Int32 → SX → Prop} {L sx sy fx fy : Nat} {x y : ra_A} (hL : L < 2) (hc : c ≤ 32) (hV : xv_V xs ys xf yf fs fr L sx sy fx fy)
    (hx : ra_H rk dm am sx x) (hy : ra_H rk dm am sy y) (wx : ra_W c x) (wy : ra_W c y) (hfx : fx ≤ x.1) (hfy : fy ≤ y.1)
    (hsx : sx < 12) (hsy : sy < 12) (qx : xv_Q L sx) (qy : xv_Q L sy)
    (hp : ∀ rk' dm' am', (ra_size x fx ≤ c ∧ ra_size y fy ≤ c → ra_H rk' dm' am' (4 + L) (ra_fc fv x fx) ∧ ra_H rk' dm' am' (6 + L) (ra_fc fv y fy)) → (∀ j, j ≠ 4 + L → j ≠ 6 + L → ra_S rk dm am rk' dm' am' j) →
      post (if ra_size x fx ≤ c ∧ ra_size y fy ≤ c then 1 else 0) (nI c, fv, oa, ol, ov, rk', dm', am', xs, ys, xf, yf, fs, fr, wr, wd)) :
    wpX_fillCells post (nI c, fv, oa, ol, ov, rk, dm, am, xs, ys, xf, yf, fs, fr, wr, wd) (nI L) := by
  obtain ⟨v1, v2, v3, v4, v5, v6⟩ := hV
  obtain ⟨-, x4, x6, -⟩ := qx
  obtain ⟨-, y4, y6, -⟩ := qy
  unfold wpX_fillCells
  simp (disch := omega) only [nI_clamp, ra_inI, true_and, v1, v3, ra_k4, ra_k6]
  refine xm_fillCell hc wx hx hsx (by omega) x4 hfx ?_
  intro rk1 dm1 am1 h4 hS1
  dsimp only
  rw [v2, v4]
  refine xm_fillCell hc wy (ra_H_S hy wy hc (hS1 sy y4)) hsy (by omega) y6 hfy ?_
  intro rk2 dm2 am2 h6 hS2
  have fin := hp rk2 dm2 am2 (fun z => ⟨ra_H_S (h4 z.1) (ra_fc_W wx z.1) hc (hS2 _ (by omega)), h6 z.2⟩) (fun j a b => ra_S_t (hS1 j a) (hS2 j b))
  by_cases a : ra_size x fx ≤ c
  · rw [if_pos a]
    refine br_f (by decide) ?_
    by_cases b : ra_size y fy ≤ c
    · rw [if_pos b]
      rw [if_pos ⟨a, b⟩] at fin
      exact br_f (by decide) fin
    · rw [if_neg b]
      rw [if_neg (fun z => b z.2)] at fin
      exact br_t rfl fin
  · rw [if_neg a]
    rw [if_neg (fun z => a z.1)] at fin
    exact br_t rfl fin
theorem xm_widen {post : SX → Prop} {L K : Nat} {w : Nat → Nat} {z : ra_A} (hL : L < 2) (hc : c ≤ 32) (hD : xv_D wr wd L K w) (k3 : K ≤ 3) (w32 : ∀ j, j < 3 → w j ≤ c)
    (hz : ra_H rk dm am (9 + L) z) (wz : ra_W c z) (h1 : 1 ≤ c)
    (hp : ∀ wr' wd', xv_D wr' wd' L (if K < z.1 then z.1 else K) (fun j => if w j < ra_lift z j then ra_lift z j else w j) →
      (∀ N, N ≠ L → wr' N = wr N ∧ ∀ i, i < 3 → wd' (N * 3 + i) = wd (N * 3 + i)) → post (nI c, fv, oa, ol, ov, rk, dm, am, xs, ys, xf, yf, fs, fr, wr', wd')) : wpX_widen post (nI c, fv, oa, ol, ov, rk, dm, am, xs, ys, xf, yf, fs, fr, wr, wd) (nI L) := by
  have z3 := wz.1
  have e9 : (8 : Int32) + nI L + 1 = nI (9 + L) := by rw [ra_k8, nI_1, show 8 + L + 1 = 9 + L by omega]
  have lp : ∀ wr', (∀ N, N ≠ L → wr' N = wr N) → wr' L = nI (if K < z.1 then z.1 else K) → ∃ n, wX_widen_36 post (nI L) (nI (9 + L)) (nI c) fv oa ol ov n 0 rk dm am xs ys xf yf fs fr wr' wd := by
    intro wr' o1 o2
    refine ra_loop0 (fun n i => wX_widen_36 post (nI L) (nI (9 + L)) (nI c) fv oa ol ov n (nI i) rk dm am xs ys xf yf fs fr wr' (ra_blk wd (L * 3) i (fun j => nI (if w j < ra_lift z j then ra_lift z j else w j)))) 3 (fun n => ?_) (fun n i hi ih => ?_) (fun n h => ?_)
    · simp only [wX_widen_36]
      refine br_t (by decide) (hp _ _ ⟨o2, fun i hi => ra_blk_in hi⟩ (fun N hN => ⟨o1 N hN, fun i hi => ra_blk_out (by omega)⟩))
    · have l32 := ra_lift_le wz h1 hi
      have v32 := w32 i hi
      simp (disch := omega) only [wX_widen_36, ra_m3, nI_add, nI_clamp, ra_inI, true_and, forall_eq, nI_1]
      refine br_f (by rw [ra_le3 (by omega)]; omega) ?_
      refine xm_liftedAxis (by omega) z3 hz hi ?_
      rw [ra_blk_out (by omega), hD.2 i hi]
      by_cases g : w i < ra_lift z i
      · refine br_f (nI_ge g (by omega)) ?_
        rw [ra_blk_s (by rw [if_pos g])]
        exact ih
      · refine br_t (nI_le (by omega) (by omega)) ?_
        have e : ra_blk wd (L * 3) (i + 1) (fun j => nI (if w j < ra_lift z j then ra_lift z j else w j)) = ra_blk wd (L * 3) i (fun j => nI (if w j < ra_lift z j then ra_lift z j else w j)) := funext fun j => by
          by_cases y : j = L * 3 + i
          · subst y
            rw [ra_blk_in (Nat.lt_succ_self i), ra_blk_out (by omega), if_neg g, hD.2 i hi]
          · by_cases u : L * 3 ≤ j ∧ j < L * 3 + i
            · obtain ⟨k, rfl⟩ : ∃ k, j = L * 3 + k := ⟨j - L * 3, by omega⟩
              rw [ra_blk_in (by omega), ra_blk_in (by omega)]
            · rw [ra_blk_out (by omega), ra_blk_out (by omega)]
        rw [e] at ih
        exact ih
    · rw [ra_blk_0] at h
      exact h
  unfold wpX_widen
  dsimp only
  rw [e9]
  refine nm_e ?_
  rw [nI_clamp (by omega), nI_clamp (by omega), hz.1, hD.1]
  refine ⟨vp_in_nI (by omega) (by decide), vp_in_nI hL (by decide), ?_⟩
  by_cases g : K < z.1
  · refine br_f (nI_ge g (by omega)) ⟨vp_in_nI (by omega) (by decide), vp_in_nI hL (by decide), nm_e ?_⟩
    refine lp _ (fun N hN => pk_un hN) ?_
    rw [pk_us, if_pos g]
  · refine br_t (nI_le (by omega) (by omega)) (lp wr (fun _ _ => rfl) ?_)
    rw [hD.1, if_neg g]
theorem xm_shapeResult {post : Int32 → SX → Prop} {L K sx sy fx fy : Nat} {w : Nat → Nat} {x y : ra_A} (hL : L < 2) (h8 : 8 ≤ c) (hc : c ≤ 32) (hV : xv_V xs ys xf yf fs fr L sx sy fx fy)
    (hD : xv_D wr wd L K w) (k3 : K ≤ 3) (w32 : ∀ j, j < 3 → w j ≤ c)
    (hx : ra_H rk dm am sx x) (hy : ra_H rk dm am sy y) (wx : ra_W c x) (wy : ra_W c y) (hfx : fx ≤ x.1) (hfy : fy ≤ y.1) (hsx : sx < 12) (hsy : sy < 12) (qx : xv_Q L sx) (qy : xv_Q L sy)
    (h1 : 3 < ra_fr fx fy + K → post (-4) (nI c, fv, oa, ol, ov, rk, dm, am, xs, ys, xf, yf, fs, fr, wr, wd))
    (h2 : ra_fr fx fy + K ≤ 3 → ∀ rk' dm', rk' (8 + L) = nI (ra_fr fx fy + K) → (∀ i, i < ra_fr fx fy + K → dm' ((8 + L) * 3 + i) = nI (if i < ra_fr fx fy then ra_F x y fx fy i else w (i - ra_fr fx fy + (3 - K)))) →
      (∀ j, j ≠ 8 + L → ra_S rk dm am rk' dm' am j) →
      post (if ra_lim c (fun i => if i < ra_fr fx fy then ra_F x y fx fy i else w (i - ra_fr fx fy + (3 - K))) (ra_fr fx fy + K) = true then -4 else 0) (nI c, fv, oa, ol, ov, rk', dm', am, xs, ys, xf, yf, fs, fr, wr, wd)) :
    wpX_shapeResult post (nI c, fv, oa, ol, ov, rk, dm, am, xs, ys, xf, yf, fs, fr, wr, wd) (nI L) := by
  obtain ⟨v1, v2, v3, v4, v5, v6⟩ := hV
  have fr3 := ra_fr_3 wx wy hfx hfy
  have hF := xv_frame hx hy hfx hfy
  have hFc := ra_F_le wx wy hfx hfy
  have hsl : (if fy < fx then sx else sy) < 12 := by split <;> assumption
  have hs8 : (if fy < fx then sx else sy) ≠ 8 + L := by
    split
    · exact qx.2.2.2
    · exact qy.2.2.2
  generalize (if fy < fx then sx else sy) = sl at v5 hF hsl hs8
  unfold wpX_shapeResult
  dsimp only
  rw [ra_k8, nI_clamp (by omega), v6, hD.1]
  refine nm_e ⟨vp_in_nI hL (by decide), nm_e ⟨vp_in_nI hL (by decide), nm_e ?_⟩⟩
  rw [nI_add]
  by_cases h3 : ra_fr fx fy + K ≤ 3
  · refine br_t (by rw [ra_gt3 (by omega)]; exact h3) ?_
    have key : ∃ n, wX_shapeResult_82 post (nI L) (nI (8 + L)) (nI (ra_fr fx fy)) (nI K) (nI (3 - K)) (nI c) fv oa ol ov n 0 rk (ra_blk dm ((8 + L) * 3) (ra_fr fx fy) (fun i => nI (ra_F x y fx fy i))) am xs ys xf yf fs fr wr wd := by
      refine ra_loop0 (fun n i => wX_shapeResult_82 post (nI L) (nI (8 + L)) (nI (ra_fr fx fy)) (nI K) (nI (3 - K)) (nI c) fv oa ol ov n (nI i) rk (ra_blk dm ((8 + L) * 3) (ra_fr fx fy + i) (fun i => nI (if i < ra_fr fx fy then ra_F x y fx fy i else w (i - ra_fr fx fy + (3 - K))))) am xs ys xf yf fs fr wr wd) K (fun n => ?_) (fun n i hi ih => ?_) (fun n h => ?_)
      · simp (disch := omega) only [wX_shapeResult_82, nI_add, nI_clamp, ra_inI, true_and, forall_eq]
        refine br_t (nI_le (Nat.le_refl _) (by omega)) ?_
        refine xm_limitError (r := ra_fr fx fy + K) (d := fun i => if i < ra_fr fx fy then ra_F x y fx fy i else w (i - ra_fr fx fy + (3 - K))) hc (by omega) h3 pk_us (fun i hi => ra_blk_in hi) (fun i hi => ?_) ?_
        · show (if i < ra_fr fx fy then ra_F x y fx fy i else w (i - ra_fr fx fy + (3 - K))) < 2 ^ 31
          by_cases e : i < ra_fr fx fy
          · rw [if_pos e]; have := hFc i e; omega
          · rw [if_neg e]; have := w32 (i - ra_fr fx fy + (3 - K)) (by omega); omega
        · exact h2 h3 _ _ pk_us (fun i hi => ra_blk_in hi) (fun j hj => ⟨pk_un hj, fun i hi => ra_blk_out (by omega), fun _ _ => rfl⟩)
      · simp (disch := omega) only [wX_shapeResult_82, ra_m3, nI_add, nI_clamp, ra_inI, true_and, forall_eq, nI_1]
        refine br_f (nI_ge hi (by omega)) ?_
        rw [show L * 3 + (3 - K) + i = L * 3 + ((3 - K) + i) by omega, hD.2 (3 - K + i) (by omega), Nat.add_assoc ((8 + L) * 3), ra_blk_s (by
          show nI (w (3 - K + i)) = nI (if ra_fr fx fy + i < ra_fr fx fy then _ else w (ra_fr fx fy + i - ra_fr fx fy + (3 - K)))
          rw [if_neg (by omega), show ra_fr fx fy + i - ra_fr fx fy + (3 - K) = 3 - K + i by omega])]
        exact ih
      · have e : ra_blk dm ((8 + L) * 3) (ra_fr fx fy + 0) (fun i => nI (if i < ra_fr fx fy then ra_F x y fx fy i else w (i - ra_fr fx fy + (3 - K)))) = ra_blk dm ((8 + L) * 3) (ra_fr fx fy) (fun i => nI (ra_F x y fx fy i)) := funext fun j => by
          by_cases u : (8 + L) * 3 ≤ j ∧ j < (8 + L) * 3 + ra_fr fx fy
          · obtain ⟨k, rfl⟩ : ∃ k, j = (8 + L) * 3 + k := ⟨j - (8 + L) * 3, by omega⟩
            rw [ra_blk_in (by omega), ra_blk_in (by omega), if_pos (by omega)]
          · rw [ra_blk_out (by omega), ra_blk_out (by omega)]
        rw [e] at h
        exact h
    refine ra_loop0 (fun n i => wX_shapeResult_34 post (nI L) (nI (8 + L)) (nI (ra_fr fx fy)) (nI K) (nI c) fv oa ol ov n (nI i) rk (ra_blk dm ((8 + L) * 3) i (fun i => nI (ra_F x y fx fy i))) am xs ys xf yf fs fr wr wd) (ra_fr fx fy) (fun n => ?_) (fun n i hi ih => ?_) (fun n h => ?_)
    · simp only [wX_shapeResult_34]
      refine br_t (nI_le (Nat.le_refl _) (by omega)) (nm_r (pk_sub (a := 3) k3) key)
    · simp (disch := omega) only [wX_shapeResult_34, v5, ra_m3, nI_add, nI_clamp, ra_inI, true_and, forall_eq, nI_1]
      refine br_f (nI_ge hi (by omega)) ?_
      rw [ra_blk_out (by omega), hF i hi, ra_blk_s rfl]
      exact ih
    · rw [ra_blk_0] at h
      exact h
  · exact br_f (by rw [ra_gt3 (by omega)]; exact h3) (h1 (by omega))
end
end
section
/-! X: split, placeCell -/
section
variable {c : Nat} {fv oa ol ov : Int32} {rk dm am xs ys xf yf fs fr wr wd : Nat → Int32}
theorem xm_split {post : Int32 → SX → Prop} {L sx sy : Nat} {x y : ra_A} {l r : Int32} (hL : L < 2) (hc : c ≤ 32) (hsx : sx < 12) (hsy : sy < 12) (wx : ra_W c x) (wy : ra_W c y)
    (hx : ra_H rk dm am sx x) (hy : ra_H rk dm am sy y) {fx fy : Nat} (efx : fx = x.1 - ra_eff l x.1) (efy : fy = y.1 - ra_eff r y.1)
    (h1 : ra_dis x y (if fx < fy then fx else fy) = true → post (-1) (nI c, fv, oa, ol, ov, rk, dm, am, xs, ys, xf, yf, fs, fr, wr, wd))
    (h2 : ra_dis x y (if fx < fy then fx else fy) = false → ∀ xs' ys' xf' yf' fs' fr' wr' wd', xv_V xs' ys' xf' yf' fs' fr' L sx sy fx fy → xv_D wr' wd' L 0 (fun _ => 0) →
      (∀ N, N ≠ L → xv_E N xs ys xf yf fs fr wr wd xs' ys' xf' yf' fs' fr' wr' wd') → post 0 (nI c, fv, oa, ol, ov, rk, dm, am, xs', ys', xf', yf', fs', fr', wr', wd')) :
    wpX_split post (nI c, fv, oa, ol, ov, rk, dm, am, xs, ys, xf, yf, fs, fr, wr, wd) (nI L) (nI sx) (nI sy) l r := by
  have x3 := wx.1
  have y3 := wy.1
  have ex := ra_eff_le l x.1 (by omega)
  have ey := ra_eff_le r y.1 (by omega)
  have main : ∃ n, wX_split_61 post (nI L) (nI sx) (nI sy) (nI fx) (nI fy) (nI (if fx < fy then fx else fy)) (nI c) fv oa ol ov rk dm am xs ys xf yf fs fr wr wd n 0 := by
    have hm : (if fx < fy then fx else fy) ≤ fx ∧ (if fx < fy then fx else fy) ≤ fy := by split <;> omega
    generalize hmm : (if fx < fy then fx else fy) = m at hm h1 h2
    have key : ∀ k i, i + k = m → (∀ j, j < i → x.2.1 j = y.2.1 j) → ∀ n, wX_split_61 post (nI L) (nI sx) (nI sy) (nI fx) (nI fy) (nI m) (nI c) fv oa ol ov rk dm am xs ys xf yf fs fr wr wd (n + k + 1) (nI i) := by
      intro k
      induction k with
      | zero =>
        intro i hi h n
        have hi' : i = m := by omega
        subst hi'
        have hdis : ra_dis x y i = false := ra_any_f i (fun j hj => decide_eq_false (fun z => z (h j hj)))
        have fin : ∀ fs', (∀ N, N ≠ L → fs' N = fs N) → fs' L = nI (if fy < fx then sx else sy) → ∀ z : Nat, z = ra_fr fx fy →
            wX_split_168 post (nI L) (nI z) (nI L) (nI c) fv oa ol ov rk dm am (upd xs L (nI sx)) (upd ys L (nI sy)) (upd xf L (nI fx)) (upd yf L (nI fy)) fs' fr wr wd := by
          intro fs' o1 o2 z ez
          subst ez
          unfold wX_split_168
          simp (disch := omega) only [nI_clamp, ra_inI, true_and, forall_eq]
          refine ra_loop0 (fun n i => wX_split_179 post (nI L) (nI c) fv oa ol ov n (nI i) rk dm am (upd xs L (nI sx)) (upd ys L (nI sy)) (upd xf L (nI fx)) (upd yf L (nI fy)) fs' (upd fr L (nI (ra_fr fx fy))) (upd wr L 0) (ra_blk wd (L * 3) i (fun _ => 0))) 3 (fun n => ?_) (fun n i hi ih => ?_) (fun n h => ?_)
          · simp only [wX_split_179]
            refine br_t (by decide) (h2 hdis _ _ _ _ _ _ _ _ ⟨pk_us, pk_us, pk_us, pk_us, o2, pk_us⟩ ⟨pk_us, fun i hi => ra_blk_in hi⟩ (fun N hN => ⟨pk_un hN, pk_un hN, pk_un hN, pk_un hN, o1 N hN, pk_un hN, pk_un hN, fun i hi => ra_blk_out (by omega)⟩))
          · simp (disch := omega) only [wX_split_179, ra_m3, nI_add, nI_clamp, ra_inI, true_and, forall_eq, nI_1]
            refine br_f (by rw [ra_le3 (by omega)]; omega) ?_
            rw [ra_blk_s rfl]
            exact ih
          · rw [ra_blk_0] at h
            exact h
        rw [wX_split_61]
        refine br_t (nI_le (Nat.le_refl _) (by omega)) ?_
        simp (disch := omega) only [nI_clamp, ra_inI, true_and, forall_eq]
        by_cases g : fy < fx
        · refine br_f (nI_ge g (by omega)) ?_
          unfold wX_split_148
          simp (disch := omega) only [nI_clamp, ra_inI, true_and, forall_eq]
          refine br_f (nI_ge g (by omega)) (fin _ (fun N hN => pk_un hN) ?_ fx ?_)
          · rw [pk_us, if_pos g]
          · unfold ra_fr; rw [if_pos g]
        · refine br_t (nI_le (by omega) (by omega)) ?_
          unfold wX_split_148
          simp (disch := omega) only [nI_clamp, ra_inI, true_and, forall_eq]
          refine br_t (nI_le (by omega) (by omega)) (fin _ (fun N hN => pk_un hN) ?_ fy ?_)
          · rw [pk_us, if_neg g]
          · unfold ra_fr; rw [if_neg g]
      | succ k ih =>
        intro i hi h n
        have xi := wx.2.1 i (by omega)
        have yi := wy.2.1 i (by omega)
        rw [wX_split_61]
        simp (disch := omega) only [ra_m3, nI_add, nI_clamp, ra_inI, true_and, hx.2.1 i (by omega), hy.2.1 i (by omega), forall_eq, nI_1]
        refine br_f (nI_ge (by omega) (by omega)) ?_
        by_cases g : x.2.1 i = y.2.1 i
        · refine br_t (by rw [g]) (ih (i + 1) (by omega) (fun j hj => ?_) n)
          by_cases z : j = i
          · subst z; exact g
          · exact h j (by omega)
        · refine br_f (fun z => g ((nI_eq (by omega) (by omega)).mp z)) (h1 (ra_any_t m i (by omega) (decide_eq_true g)))
    exact ⟨_, key m 0 (Nat.zero_add m) (fun j hj => absurd hj (Nat.not_lt_zero j)) 0⟩
  unfold wpX_split
  dsimp only
  rw [nI_clamp (by omega), nI_clamp (by omega), hx.1, hy.1]
  refine ⟨vp_in_nI hsx (by decide), vp_in_nI hsx (by decide), ?_⟩
  refine xm_cellRank x3 ?_
  refine nm_r (e' := nI fx) (by rw [efx]; exact pk_sub ex) ?_
  refine ⟨vp_in_nI hsy (by decide), vp_in_nI hsy (by decide), ?_⟩
  refine xm_cellRank y3 ?_
  refine nm_r (e' := nI fy) (by rw [efy]; exact pk_sub ey) ?_
  by_cases g : fx < fy
  · rw [if_pos g] at main
    exact br_f (nI_ge g (by omega)) main
  · rw [if_neg g] at main
    exact br_t (nI_le (by omega) (by omega)) main
theorem ra_89 (L : Nat) : 8 + L + 1 = 9 + L := by omega
theorem xm_placeCell {post : SX → Prop} {L K q M : Nat} {w : Nat → Nat} {z : ra_A} (hL : L < 2) (hc : c ≤ 32) (hD : xv_D wr wd L K w) (hz : ra_H rk dm am (9 + L) z) (wz : ra_W c z) (w32 : ∀ j, j < 3 → w j ≤ c)
    (eM : M = w 0 * w 1 * w 2) (hM : q * M + M ≤ 32) (hq : q < 2 ^ 31)
    (hp : post (nI c, fv, oa, ol, ov, rk, dm, ra_blk am ((8 + L) * 32 + q * M) M (fun i => ra_pl fv (w 1) (w 2) z i), xs, ys, xf, yf, fs, fr, wr, wd)) : wpX_placeCell post (nI c, fv, oa, ol, ov, rk, dm, am, xs, ys, xf, yf, fs, fr, wr, wd) (nI L) (nI q) := by
  have z3 := wz.1
  have a0 := w32 0 (by decide)
  have a1 := w32 1 (by decide)
  have a2 := w32 2 (by decide)
  have d0 : wd (L * 3) = nI (w 0) := hD.2 0 (by decide)
  have d1 := hD.2 1 (by decide)
  have d2 := hD.2 2 (by decide)
  have l0 : ra_lift z 0 < 2 ^ 31 := by
    unfold ra_lift
    split
    · omega
    · have := wz.2.1 (0 - (3 - z.1)) (by omega); omega
  have l1 : ra_lift z 1 < 2 ^ 31 := by
    unfold ra_lift
    split
    · omega
    · have := wz.2.1 (1 - (3 - z.1)) (by omega); omega
  have l2 : ra_lift z 2 < 2 ^ 31 := by
    unfold ra_lift
    split
    · omega
    · have := wz.2.1 (2 - (3 - z.1)) (by omega); omega
  have hin : ∀ i j k, i < ra_lift z 0 → j < ra_lift z 1 → k < ra_lift z 2 → (i * ra_lift z 1 + j) * ra_lift z 2 + k < ra_cnt z := fun i j k hi hj hk => by
    rw [← ra_lift_p z3]; exact ra_in3 hi hj hk
  unfold wpX_placeCell
  simp (disch := omega) only [ra_k8, ra_89, ra_m3, ra_m32, nI_1, ra_a2, nI_clamp, ra_inI, true_and, forall_eq, d0, d1, d2]
  refine xm_liftedAxis (i := 0) (by omega) z3 hz (by decide) ?_
  refine xm_liftedAxis (i := 1) (by omega) z3 hz (by decide) ?_
  refine xm_liftedAxis (i := 2) (by omega) z3 hz (by decide) ?_
  rw [pk_mul, pk_mul, pk_mul, nI_add, show q * w 0 * w 1 * w 2 = q * M by rw [eM, Nat.mul_assoc, Nat.mul_assoc, Nat.mul_assoc]]
  generalize hB : (8 + L) * 32 + q * M = B at hp ⊢
  have hB2 : B + M ≤ (8 + L) * 32 + 32 := by omega
  have hB3 : (8 + L) * 32 ≤ B := by omega
  refine ra_loop0 (fun n i => wX_placeCell_88 post (nI (9 + L)) (nI (w 0)) (nI (w 1)) (nI (w 2)) (nI (ra_lift z 0)) (nI (ra_lift z 1)) (nI (ra_lift z 2)) (nI B) (nI c) fv oa ol ov n (nI i) rk dm (ra_blk am B (i * w 1 * w 2) (fun i => ra_pl fv (w 1) (w 2) z i)) xs ys xf yf fs fr wr wd) (w 0) (fun n => ?_) (fun m i hi ih => ?_) (fun n h => ?_)
  · simp only [wX_placeCell_88]
    rw [← eM]
    exact br_t (nI_le (Nat.le_refl _) (by omega)) hp
  · simp only [wX_placeCell_88]
    refine br_f (nI_ge hi (by omega)) ?_
    refine ra_loop0 (fun n j => wX_placeCell_98 post (wX_placeCell_88 post (nI (9 + L)) (nI (w 0)) (nI (w 1)) (nI (w 2)) (nI (ra_lift z 0)) (nI (ra_lift z 1)) (nI (ra_lift z 2)) (nI B) (nI c) fv oa ol ov m) (nI (9 + L)) (nI (w 0)) (nI (w 1)) (nI (w 2)) (nI (ra_lift z 0)) (nI (ra_lift z 1)) (nI (ra_lift z 2)) (nI B) (nI i) (nI c) fv oa ol ov n (nI j) rk dm (ra_blk am B ((i * w 1 + j) * w 2) (fun i => ra_pl fv (w 1) (w 2) z i)) xs ys xf yf fs fr wr wd) (w 1) (fun n => ?_) (fun m2 j hj ih2 => ?_) (fun n h => ?_)
    · simp only [wX_placeCell_98, nI_1, forall_eq]
      refine br_t (nI_le (Nat.le_refl _) (by omega)) ?_
      rw [show i * w 1 + w 1 = (i + 1) * w 1 by rw [Nat.succ_mul]]
      exact ih
    · simp only [wX_placeCell_98]
      refine br_f (nI_ge hj (by omega)) ?_
      refine ra_loop0 (fun n k => wX_placeCell_108 post (wX_placeCell_88 post (nI (9 + L)) (nI (w 0)) (nI (w 1)) (nI (w 2)) (nI (ra_lift z 0)) (nI (ra_lift z 1)) (nI (ra_lift z 2)) (nI B) (nI c) fv oa ol ov m) (wX_placeCell_98 post (wX_placeCell_88 post (nI (9 + L)) (nI (w 0)) (nI (w 1)) (nI (w 2)) (nI (ra_lift z 0)) (nI (ra_lift z 1)) (nI (ra_lift z 2)) (nI B) (nI c) fv oa ol ov m) (nI (9 + L)) (nI (w 0)) (nI (w 1)) (nI (w 2)) (nI (ra_lift z 0)) (nI (ra_lift z 1)) (nI (ra_lift z 2)) (nI B) (nI i) (nI c) fv oa ol ov m2) (nI (9 + L)) (nI (w 0)) (nI (w 1)) (nI (w 2)) (nI (ra_lift z 0)) (nI (ra_lift z 1)) (nI (ra_lift z 2)) (nI B) (nI i) (nI j) (nI c) fv oa ol ov n (nI k) rk dm (ra_blk am B ((i * w 1 + j) * w 2 + k) (fun i => ra_pl fv (w 1) (w 2) z i)) xs ys xf yf fs fr wr wd) (w 2) (fun n => ?_) (fun n k hk ih3 => ?_) (fun n h => ?_)
      · simp only [wX_placeCell_108, nI_1, forall_eq]
        refine br_t (nI_le (Nat.le_refl _) (by omega)) ?_
        rw [show (i * w 1 + j) * w 2 + w 2 = (i * w 1 + (j + 1)) * w 2 by rw [← Nat.add_assoc, Nat.succ_mul]]
        exact ih2
      · have ht : (i * w 1 + j) * w 2 + k < M := by rw [eM]; exact ra_in3 hi hj hk
        have pj := ra_pl_join (fl := fv) (z := z) (i := i) hj hk
        simp only [wX_placeCell_108]
        refine br_f (nI_ge hk (by omega)) ?_
        by_cases g0 : i < ra_lift z 0
        · refine br_f (nI_ge g0 l0) ?_
          by_cases g1 : j < ra_lift z 1
          · refine br_f (nI_ge g1 l1) ?_
            by_cases g2 : k < ra_lift z 2
            · refine br_f (nI_ge g2 l2) ?_
              have hcn := hin i j k g0 g1 g2
              have hcc := wz.2.2
              rw [if_pos ⟨g0, g1, g2⟩] at pj
              unfold wX_placeCell_141
              simp (disch := omega) only [ra_m32, pk_mul, nI_add, nI_1, nI_clamp, ra_inI, true_and, forall_eq]
              refine br_f (by decide) ?_
              rw [ra_blk_out (by omega), Nat.add_assoc B, Nat.add_assoc ((9 + L) * 32), hz.2.2 _ hcn, ra_blk_s pj.symm]
              exact ih3
            · refine br_t (nI_le (by omega) (by omega)) ?_
              rw [if_neg (fun h => g2 h.2.2)] at pj
              unfold wX_placeCell_140 wX_placeCell_141
              simp (disch := omega) only [pk_mul, nI_add, nI_1, nI_clamp, ra_inI, true_and, forall_eq]
              refine br_t True.intro ?_
              rw [Nat.add_assoc B, ra_blk_s pj.symm]
              exact ih3
          · refine br_t (nI_le (by omega) (by omega)) ?_
            rw [if_neg (fun h => g1 h.2.1)] at pj
            unfold wX_placeCell_140 wX_placeCell_141
            simp (disch := omega) only [pk_mul, nI_add, nI_1, nI_clamp, ra_inI, true_and, forall_eq]
            refine br_t True.intro ?_
            rw [Nat.add_assoc B, ra_blk_s pj.symm]
            exact ih3
        · refine br_t (nI_le (by omega) (by omega)) ?_
          rw [if_neg (fun h => g0 h.1)] at pj
          unfold wX_placeCell_140 wX_placeCell_141
          simp (disch := omega) only [pk_mul, nI_add, nI_1, nI_clamp, ra_inI, true_and, forall_eq]
          refine br_t True.intro ?_
          rw [Nat.add_assoc B, ra_blk_s pj.symm]
          exact ih3
      · exact h
    · exact h
  · rw [Nat.zero_mul, Nat.zero_mul, ra_blk_0] at h
    exact h
end
end
section
/-! X: the primitives -/
section
variable {c : Nat} {x y : ra_A} {fl : Int32}
theorem ra_PE1 : ra_PE c 1 x y = if y.2.2 0 < 0 then -2 else if nI c < y.2.2 0 then -4 else 0 := by unfold ra_PE; rw [if_pos rfl]
theorem ra_PE4 : ra_PE c 4 x y = if c < ra_it y then -4 else 0 := by unfold ra_PE; rw [if_neg (by decide), if_pos rfl]
theorem ra_PE10 : ra_PE c 10 x y = if ra_neg x = true then -2 else if 3 < ra_cnt x ∨ ra_big c x = true ∨ c < ra_prod (fun i => (x.2.2 i).toNatClampNeg) 0 (ra_cnt x) then -4 else 0 := by
  unfold ra_PE; rw [if_neg (by decide), if_neg (by decide), if_pos rfl]
theorem ra_PE11 : ra_PE c 11 x y = if c < ra_abs (x.2.2 0) ∨ c < ra_abs (x.2.2 0) * ra_it y then -4 else 0 := by
  unfold ra_PE; rw [if_neg (by decide), if_neg (by decide), if_neg (by decide), if_pos rfl]
theorem ra_PE12 : ra_PE c 12 x y = if (x.2.2 0).toInt < -(ra_len y : Int) ∨ (ra_len y : Int) ≤ (x.2.2 0).toInt then -3 else 0 := by
  unfold ra_PE; rw [if_neg (by decide), if_neg (by decide), if_neg (by decide), if_neg (by decide), if_pos rfl]
theorem ra_PEz {v : Nat} (h1 : v ≠ 1) (h4 : v ≠ 4) (h10 : v ≠ 10) (h11 : v ≠ 11) (h12 : v ≠ 12) : ra_PE c v x y = 0 := by
  unfold ra_PE; rw [if_neg h1, if_neg h4, if_neg h10, if_neg h11, if_neg h12]
theorem ra_PA1 : ra_PA fl 1 x y = (1, fun _ => (y.2.2 0).toNatClampNeg, fun i => nI i) := by unfold ra_PA; rw [if_neg (by decide), if_pos rfl]
theorem ra_blk_item {am : Nat → Int32} {b d z j : Nat} {src : Nat → Nat} (hs : b + src j * z + z ≤ d) :
    ra_blk (ra_blk am d (j * z) (fun n => am (b + (src (n / z) * z + n % z)))) (d + j * z) z (fun i => ra_blk am d (j * z) (fun n => am (b + (src (n / z) * z + n % z))) (b + src j * z + i)) = ra_blk am d ((j + 1) * z) (fun n => am (b + (src (n / z) * z + n % z))) := by
  rw [Nat.succ_mul]
  exact ra_blk_blk (fun i hi => by rw [ra_blk_out (by omega), (ra_item hi).1, (ra_item hi).2, Nat.add_assoc])
end
section
variable {post : Int32 → SX → Prop} {c : Nat} {x y : ra_A} {fv oa ol ov : Int32} {rk dm am xs ys xf yf fs fr wr wd : Nat → Int32}
theorem xm_giveScalar {v : Nat} {z : Int32} (e0 : ra_PE c v x y = 0) (ez : ra_PA fv v x y = ra_sc z) (hp : ∀ rk' dm' am', (∀ j, j ≠ 10 → ra_S rk dm am rk' dm' am' j) → (ra_PE c v x y = 0 → ra_H rk' dm' am' 10 (ra_PA fv v x y)) → post (ra_PE c v x y) (nI c, fv, oa, ol, ov, rk', dm', am', xs, ys, xf, yf, fs, fr, wr, wd))
 : wpX_giveScalar post (nI c, fv, oa, ol, ov, rk, dm, am, xs, ys, xf, yf, fs, fr, wr, wd) z := by
  unfold wpX_giveScalar
  refine nm_e (nm_e ?_)
  have := hp (upd rk 10 0) dm (upd am 320 z) (fun j hj => ra_S_sc hj) (fun _ => by rw [ez]; exact ra_H_sc)
  rw [e0] at this
  exact this
theorem xm_giveListShape {post : SX → Prop} {n : Int32} (hp : post (nI c, fv, oa, ol, ov, upd rk 10 1, upd dm 30 n, am, xs, ys, xf, yf, fs, fr, wr, wd)) : wpX_giveListShape post (nI c, fv, oa, ol, ov, rk, dm, am, xs, ys, xf, yf, fs, fr, wr, wd) n := by
  unfold wpX_giveListShape
  exact nm_e (nm_e hp)
theorem xm_iota (hc : c ≤ 32) (hp : ∀ rk' dm' am', (∀ j, j ≠ 10 → ra_S rk dm am rk' dm' am' j) → (ra_PE c 1 x y = 0 → ra_H rk' dm' am' 10 (ra_PA fv 1 x y)) → post (ra_PE c 1 x y) (nI c, fv, oa, ol, ov, rk', dm', am', xs, ys, xf, yf, fs, fr, wr, wd))
 : wpX_iota post (nI c, fv, oa, ol, ov, rk, dm, am, xs, ys, xf, yf, fs, fr, wr, wd) (y.2.2 0) := by
  unfold wpX_iota
  by_cases a : y.2.2 0 < 0
  · have e : ra_PE c 1 x y = -2 := by rw [ra_PE1, if_pos a]
    have := hp rk dm am (fun _ _ => ra_S_r) (fun z => absurd (e.symm.trans z) (by decide))
    rw [e] at this
    exact br_f (Int32.not_le.mpr a) this
  · refine br_t (Int32.not_lt.mp a) ?_
    by_cases b : nI c < y.2.2 0
    · have e : ra_PE c 1 x y = -4 := by rw [ra_PE1, if_neg a, if_pos b]
      have := hp rk dm am (fun _ _ => ra_S_r) (fun z => absurd (e.symm.trans z) (by decide))
      rw [e] at this
      exact br_f (Int32.not_le.mpr b) this
    · refine br_t (Int32.not_lt.mp b) ?_
      have e : ra_PE c 1 x y = 0 := by rw [ra_PE1, if_neg a, if_neg b]
      obtain ⟨n, hn, en⟩ := nI_of a
      rw [en] at b ⊢
      rw [nI_ltI (by omega) hn] at b
      have fin := hp (upd rk 10 1) (upd dm 30 (nI n)) (ra_blk am 320 n nI) (fun j hj => ra_S_list (by omega) hj) (fun _ => by
        rw [ra_PA1, en, nI_clamp hn]
        exact ra_H_list (fun i _ => rfl))
      rw [e] at fin
      refine xm_giveListShape ?_
      refine ra_loop0 (fun m i => wX_iota_25 post (nI n) (nI c) fv oa ol ov m (nI i) (upd rk 10 1) (upd dm 30 (nI n)) (ra_blk am 320 i nI) xs ys xf yf fs fr wr wd) n (fun m => ?_) (fun m i hi ih => ?_) (fun m h => ?_)
      · simp only [wX_iota_25]
        exact br_t (nI_le (Nat.le_refl _) (by omega)) fin
      · simp (disch := omega) only [wX_iota_25, ra_k320, nI_clamp, ra_inI, true_and, forall_eq, nI_1]
        refine br_f (nI_ge hi (by omega)) ?_
        rw [ra_blk_s rfl]
        exact ih
      · rw [ra_blk_0] at h
        exact h
theorem xm_shape (hc : c ≤ 32) (hy : ra_H rk dm am 7 y) (wy : ra_W c y) (hp : ∀ rk' dm' am', (∀ j, j ≠ 10 → ra_S rk dm am rk' dm' am' j) → (ra_PE c 2 x y = 0 → ra_H rk' dm' am' 10 (ra_PA fv 2 x y)) → post (ra_PE c 2 x y) (nI c, fv, oa, ol, ov, rk', dm', am', xs, ys, xf, yf, fs, fr, wr, wd))
 : wpX_shape post (nI c, fv, oa, ol, ov, rk, dm, am, xs, ys, xf, yf, fs, fr, wr, wd) := by
  have y3 := wy.1
  have e : ra_PE c 2 x y = 0 := ra_PEz (by decide) (by decide) (by decide) (by decide) (by decide)
  have fin := hp (upd rk 10 1) (upd dm 30 (nI y.1)) (ra_blk am 320 y.1 (fun i => dm (21 + i))) (fun j hj => ra_S_list (by omega) hj) (fun _ =>
    ra_P2 (s := 7) hy pk_us pk_us (fun i hi => ra_blk_in hi))
  rw [e] at fin
  unfold wpX_shape
  dsimp only
  rw [hy.1]
  refine xm_giveListShape ?_
  refine ra_loop0 (fun m i => wX_shape_13 post (nI c) fv oa ol ov m (nI i) (upd rk 10 1) (upd dm 30 (nI y.1)) (ra_blk am 320 i (fun i => dm (21 + i))) xs ys xf yf fs fr wr wd) y.1 (fun m => ?_) (fun m i hi ih => ?_) (fun m h => ?_)
  · simp only [wX_shape_13]
    rw [pk_un (by decide), hy.1]
    exact br_t (nI_le (Nat.le_refl _) (by omega)) fin
  · simp (disch := omega) only [wX_shape_13, ra_k21, ra_k320, nI_clamp, ra_inI, true_and, forall_eq, nI_1]
    rw [pk_un (by decide), hy.1]
    refine br_f (nI_ge hi (by omega)) ?_
    rw [pk_un (by omega), ra_blk_s rfl]
    exact ih
  · rw [ra_blk_0] at h
    exact h
theorem xm_itemCount {post : Int32 → Prop} (hy : ra_H rk dm am 7 y) (wy : ra_W c y) (hp : post (nI (ra_len y))) : wpX_itemCount post (nI c, fv, oa, ol, ov, rk, dm, am, xs, ys, xf, yf, fs, fr, wr, wd) := by
  have y3 := wy.1
  unfold wpX_itemCount
  unfold ra_len at hp
  by_cases e : y.1 = 0
  · rw [if_pos e] at hp
    exact br_t (hy.1.trans (by rw [e]; rfl)) hp
  · rw [if_neg e, ← hy.2.1 0 (by omega)] at hp
    exact br_f (fun z => e (by
      have z' := z
      rw [hy.1, ra_eq0 (by omega)] at z'
      exact z')) hp
theorem xm_copyItem {post : SX → Prop} {j k z : Nat} (hj : j * z + z ≤ 32) (hk : k * z + z ≤ 32) (hp : post (nI c, fv, oa, ol, ov, rk, dm, ra_blk am (320 + k * z) z (fun i => am (224 + j * z + i)), xs, ys, xf, yf, fs, fr, wr, wd)) : wpX_copyItem post (nI c, fv, oa, ol, ov, rk, dm, am, xs, ys, xf, yf, fs, fr, wr, wd) (nI j) (nI k) (nI z) := by
  unfold wpX_copyItem
  refine ra_loop0 (fun n i => wX_copyItem_3 post (nI j) (nI k) (nI z) (nI c) fv oa ol ov n (nI i) rk dm (ra_blk am (320 + k * z) i (fun i => am (224 + j * z + i))) xs ys xf yf fs fr wr wd) z (fun n => ?_) (fun n i hi ih => ?_) (fun n h => ?_)
  · simp only [wX_copyItem_3]
    exact br_t (nI_le (Nat.le_refl _) (by omega)) hp
  · simp (disch := omega) only [wX_copyItem_3, pk_mul, ra_k224, ra_k320, nI_add, nI_clamp, ra_inI, true_and, forall_eq, nI_1]
    refine br_f (nI_ge hi (by omega)) ?_
    rw [ra_blk_out (by omega), ra_blk_s rfl]
    exact ih
  · rw [ra_blk_0] at h
    exact h
theorem xm_fillItem {post : SX → Prop} {k z : Nat} (hk : k * z + z ≤ 32) (hp : post (nI c, fv, oa, ol, ov, rk, dm, ra_blk am (320 + k * z) z (fun _ => fv), xs, ys, xf, yf, fs, fr, wr, wd)) : wpX_fillItem post (nI c, fv, oa, ol, ov, rk, dm, am, xs, ys, xf, yf, fs, fr, wr, wd) (nI k) (nI z) := by
  unfold wpX_fillItem
  refine ra_loop0 (fun n i => wX_fillItem_2 post (nI k) (nI z) (nI c) fv oa ol ov n (nI i) rk dm (ra_blk am (320 + k * z) i (fun _ => fv)) xs ys xf yf fs fr wr wd) z (fun n => ?_) (fun n i hi ih => ?_) (fun n h => ?_)
  · simp only [wX_fillItem_2]
    exact br_t (nI_le (Nat.le_refl _) (by omega)) hp
  · simp (disch := omega) only [wX_fillItem_2, pk_mul, ra_k320, nI_add, nI_clamp, ra_inI, true_and, forall_eq, nI_1]
    refine br_f (nI_ge hi (by omega)) ?_
    rw [ra_blk_s rfl]
    exact ih
  · rw [ra_blk_0] at h
    exact h
theorem xm_ravel (hc : c ≤ 32) (hy : ra_H rk dm am 7 y) (wy : ra_W c y) (hp : ∀ rk' dm' am', (∀ j, j ≠ 10 → ra_S rk dm am rk' dm' am' j) → (ra_PE c 5 x y = 0 → ra_H rk' dm' am' 10 (ra_PA fv 5 x y)) → post (ra_PE c 5 x y) (nI c, fv, oa, ol, ov, rk', dm', am', xs, ys, xf, yf, fs, fr, wr, wd))
 : wpX_ravel post (nI c, fv, oa, ol, ov, rk, dm, am, xs, ys, xf, yf, fs, fr, wr, wd) := by
  have y3 := wy.1
  have yc := wy.2.2
  have e : ra_PE c 5 x y = 0 := ra_PEz (by decide) (by decide) (by decide) (by decide) (by decide)
  unfold wpX_ravel
  dsimp only
  rw [hy.1]
  refine xm_product (s := 7) (f := 0) (d := y.2.1) (by decide) (by decide) y3 (fun i _ hi => hy.2.1 i hi) ?_
  refine xm_giveListShape ?_
  refine xm_copyItem (j := 0) (k := 0) (z := ra_cnt y) (by omega) (by omega) ?_
  have fin := hp (upd rk 10 1) (upd dm 30 (nI (ra_cnt y))) (ra_blk am (320 + 0 * ra_cnt y) (ra_cnt y) (fun i => am (224 + 0 * ra_cnt y + i)))
    (fun j hj => by rw [Nat.zero_mul]; exact ra_S_list (by omega) hj) (fun _ =>
    ra_P5 (s := 7) hy pk_us pk_us (fun i hi => by rw [Nat.zero_mul]; exact ra_blk_in hi))
  rw [e] at fin
  exact fin
theorem xm_reverse (hc : c ≤ 32) (hy : ra_H rk dm am 7 y) (wy : ra_W c y) (hp : ∀ rk' dm' am', (∀ j, j ≠ 10 → ra_S rk dm am rk' dm' am' j) → (ra_PE c 3 x y = 0 → ra_H rk' dm' am' 10 (ra_PA fv 3 x y)) → post (ra_PE c 3 x y) (nI c, fv, oa, ol, ov, rk', dm', am', xs, ys, xf, yf, fs, fr, wr, wd))
 : wpX_reverse post (nI c, fv, oa, ol, ov, rk, dm, am, xs, ys, xf, yf, fs, fr, wr, wd) := by
  have y3 := wy.1
  have yc := wy.2.2
  rw [ra_cnt_li] at yc
  have ib := ra_it_le hc wy
  have e : ra_PE c 3 x y = 0 := ra_PEz (by decide) (by decide) (by decide) (by decide) (by decide)
  have hin : ∀ j, j < ra_len y → j * ra_it y + ra_it y ≤ 32 := fun j hj => by
    have : (j + 1) * ra_it y ≤ ra_len y * ra_it y := Nat.mul_le_mul_right _ hj
    rw [Nat.succ_mul] at this; omega
  have lb : ra_len y ≤ 32 := by
    unfold ra_len
    split
    · decide
    · exact Nat.le_trans (wy.2.1 0 (by omega)) hc
  have fin := hp (upd rk 10 (nI (y.1 - 0))) (ra_blk dm (10 * 3) (y.1 - 0) (fun i => dm (7 * 3 + 0 + i))) (ra_blk am 320 (ra_len y * ra_it y) (fun n => am (224 + ((ra_len y - 1 - n / ra_it y) * ra_it y + n % ra_it y))))
    (fun j hj => ra_S_blk (by omega) (by omega) hj) (fun _ =>
    ra_P3 (s := 7) hy pk_us (fun i hi => (ra_blk_in hi).trans (hy.2.1 i hi)) (fun i hi => ra_blk_in hi))
  rw [e] at fin
  unfold wpX_reverse
  refine xm_itemCount hy wy ?_
  dsimp only
  rw [hy.1]
  refine xm_product (s := 7) (f := 1) (d := y.2.1) (by decide) (by decide) y3 (fun i _ hi => hy.2.1 i hi) ?_
  refine xm_copyAxes (s := 7) (f := 0) (t := 10) (by decide) (by decide) (by decide) y3 (by decide) hy.1 ?_
  refine ra_loop0 (fun n j => wX_reverse_31 post (nI (ra_len y)) (nI (ra_it y)) n (nI j) (nI c) fv oa ol ov (upd rk 10 (nI (y.1 - 0))) (ra_blk dm (10 * 3) (y.1 - 0) (fun i => dm (7 * 3 + 0 + i))) (ra_blk am 320 (j * ra_it y) (fun n => am (224 + ((ra_len y - 1 - n / ra_it y) * ra_it y + n % ra_it y)))) xs ys xf yf fs fr wr wd) (ra_len y) (fun n => ?_) (fun n j hj ih => ?_) (fun n h => ?_)
  · simp only [wX_reverse_31]
    exact br_t (nI_le (Nat.le_refl _) (by omega)) fin
  · simp only [wX_reverse_31]
    refine br_f (nI_ge hj (by omega)) ?_
    rw [show nI (ra_len y) - 1 - nI j = nI (ra_len y - 1 - j) by
      rw [show (1 : Int32) = nI 1 from rfl, pk_sub (by omega), pk_sub (by omega)]]
    refine xm_copyItem (hin _ (by omega)) (hin j hj) ?_
    refine nm_r (nI_1 j) ?_
    have hs := hin (ra_len y - 1 - j) (by omega)
    have eb := ra_blk_item (am := am) (b := 224) (d := 320) (z := ra_it y) (j := j) (src := fun k => ra_len y - 1 - k) (by show 224 + (ra_len y - 1 - j) * ra_it y + ra_it y ≤ 320; omega)
    dsimp only at eb ⊢
    rw [eb]
    exact ih
  · rw [Nat.zero_mul, ra_blk_0] at h
    exact h
theorem xm_sum54 {J : Int32 → (Nat → Int32) → (Nat → Int32) → (Nat → Int32) → (Nat → Int32) → (Nat → Int32) → (Nat → Int32) → (Nat → Int32) → (Nat → Int32) → (Nat → Int32) → (Nat → Int32) → (Nat → Int32) → Prop} {len z i : Nat} (hi : i < z) (hz : len * z ≤ 32) (hz2 : z ≤ 32) (hl : len ≤ 32)
    (hp : J (nI (i + 1)) rk dm (upd am (320 + i) (ra_sum (fun j => am (224 + (j * z + i))) len)) xs ys xf yf fs fr wr wd) : ∃ n, wX_sum_54 post J (nI len) (nI z) (nI i) (nI c) fv oa ol ov rk dm am xs ys xf yf fs fr wr wd n 0 0 := by
  refine ra_loop (fun n j => wX_sum_54 post J (nI len) (nI z) (nI i) (nI c) fv oa ol ov rk dm am xs ys xf yf fs fr wr wd n (ra_sum (fun j => am (224 + (j * z + i))) j) (nI j)) len (fun n => ?_) (fun n j hj ih => ?_) 0 (Nat.zero_le _)
  · simp (disch := omega) only [wX_sum_54, ra_k320, nI_clamp, ra_inI, true_and, forall_eq, nI_1]
    exact br_t (nI_le (Nat.le_refl _) (by omega)) hp
  · have hb := ra_part (c := 32) hj hz hi
    simp (disch := omega) only [wX_sum_54, pk_mul, ra_k224, nI_add, nI_clamp, ra_inI, true_and, forall_eq, nI_1]
    refine br_f (nI_ge hj (by omega)) ?_
    rw [Nat.add_assoc]
    exact ih
theorem xm_sum (h8 : 8 ≤ c) (hc : c ≤ 32) (hy : ra_H rk dm am 7 y) (wy : ra_W c y) (hp : ∀ rk' dm' am', (∀ j, j ≠ 10 → ra_S rk dm am rk' dm' am' j) → (ra_PE c 4 x y = 0 → ra_H rk' dm' am' 10 (ra_PA fv 4 x y)) → post (ra_PE c 4 x y) (nI c, fv, oa, ol, ov, rk', dm', am', xs, ys, xf, yf, fs, fr, wr, wd))
 : wpX_sum post (nI c, fv, oa, ol, ov, rk, dm, am, xs, ys, xf, yf, fs, fr, wr, wd) := by
  have y3 := wy.1
  have ht : ∀ i, i < y.1 - 1 → dm (7 * 3 + 1 + i) = nI (y.2.1 (1 + i)) := fun i hi => by
    rw [Nat.add_assoc]; exact hy.2.1 (1 + i) (by omega)
  have yc := wy.2.2
  rw [ra_cnt_li] at yc
  have ib := ra_it_le hc wy
  have lb := ra_len_le (by omega) wy
  unfold wpX_sum
  refine xm_itemCount hy wy ?_
  refine xm_copyAxes (s := 7) (f := 1) (t := 10) (by decide) (by decide) (by decide) y3 (by decide) hy.1 ?_
  refine xm_limitError (s := 10) (r := y.1 - 1) (d := fun i => y.2.1 (1 + i)) hc (by decide) (by omega) pk_us (fun i hi => (ra_blk_in hi).trans (ht i hi)) (fun i hi => ?_) ?_
  · have := wy.2.1 (1 + i) (by omega)
    show y.2.1 (1 + i) < 2 ^ 31
    omega
  rw [ra_lim_le (fun i hi => wy.2.1 (1 + i) (by omega)), show ra_prod (fun i => y.2.1 (1 + i)) 0 (y.1 - 1) = ra_it y from ra_tail_cnt (a := y.2.2)]
  by_cases g : c < ra_it y
  · have e : ra_PE c 4 x y = -4 := by rw [ra_PE4, if_pos g]
    rw [if_pos (decide_eq_true g)]
    have := hp (upd rk 10 (nI (y.1 - 1))) (ra_blk dm (10 * 3) (y.1 - 1) (fun i => dm (7 * 3 + 1 + i))) am (fun j hj => ⟨pk_un hj, fun i hi => ra_blk_out (by omega), fun _ _ => rfl⟩) (fun z => absurd (e.symm.trans z) (by decide))
    rw [e] at this
    exact br_f (by decide) this
  · have e : ra_PE c 4 x y = 0 := by rw [ra_PE4, if_neg g]
    rw [if_neg (fun z => g (of_decide_eq_true z))]
    refine br_t rfl ?_
    have fin := hp (upd rk 10 (nI (y.1 - 1))) (ra_blk dm (10 * 3) (y.1 - 1) (fun i => dm (7 * 3 + 1 + i))) (ra_blk am 320 (ra_it y) (fun i => ra_sum (fun j => am (224 + (j * ra_it y + i))) (ra_len y)))
      (fun j hj => ra_S_blk (by omega) (by omega) hj) (fun _ =>
      ra_P4 (s := 7) hy pk_us (fun i hi => (ra_blk_in hi).trans (ht i hi)) (fun i hi => ra_blk_in hi))
    rw [e] at fin
    rw [pk_us]
    refine xm_product (s := 10) (f := 0) (d := fun i => y.2.1 (1 + i)) (by decide) (by decide) (by omega) (fun i _ hi => (ra_blk_in hi).trans (ht i hi)) ?_
    rw [show ra_prod (fun i => y.2.1 (1 + i)) 0 (y.1 - 1 - 0) = ra_it y from ra_tail_cnt (a := y.2.2)]
    refine ra_loop0 (fun n i => wX_sum_43 post (nI (ra_len y)) (nI (ra_it y)) (nI c) fv oa ol ov n (nI i) (upd rk 10 (nI (y.1 - 1))) (ra_blk dm (10 * 3) (y.1 - 1) (fun i => dm (7 * 3 + 1 + i))) (ra_blk am 320 i (fun i => ra_sum (fun j => am (224 + (j * ra_it y + i))) (ra_len y))) xs ys xf yf fs fr wr wd) (ra_it y) (fun n => ?_) (fun n i hi ih => ?_) (fun n h => ?_)
    · simp only [wX_sum_43]
      exact br_t (nI_le (Nat.le_refl _) (by omega)) fin
    · simp only [wX_sum_43]
      refine br_f (nI_ge hi (by omega)) ?_
      refine xm_sum54 hi (by omega) (by omega) (by omega) ?_
      have es : ra_sum (fun j => ra_blk am 320 i (fun i => ra_sum (fun j => am (224 + (j * ra_it y + i))) (ra_len y)) (224 + (j * ra_it y + i))) (ra_len y) = ra_sum (fun j => am (224 + (j * ra_it y + i))) (ra_len y) :=
        ra_sum_congr _ (fun j hj => ra_blk_out (by have := ra_part (c := 32) hj (by omega) hi; omega))
      rw [es, ra_blk_s rfl]
      exact ih
    · rw [ra_blk_0] at h
      exact h
theorem xm_from (h8 : 8 ≤ c) (hc : c ≤ 32) (hy : ra_H rk dm am 7 y) (wy : ra_W c y) (hp : ∀ rk' dm' am', (∀ j, j ≠ 10 → ra_S rk dm am rk' dm' am' j) → (ra_PE c 12 x y = 0 → ra_H rk' dm' am' 10 (ra_PA fv 12 x y)) → post (ra_PE c 12 x y) (nI c, fv, oa, ol, ov, rk', dm', am', xs, ys, xf, yf, fs, fr, wr, wd))
 : wpX_from post (nI c, fv, oa, ol, ov, rk, dm, am, xs, ys, xf, yf, fs, fr, wr, wd) (x.2.2 0) := by
  have y3 := wy.1
  have ht : ∀ i, i < y.1 - 1 → dm (7 * 3 + 1 + i) = nI (y.2.1 (1 + i)) := fun i hi => by
    rw [Nat.add_assoc]; exact hy.2.1 (1 + i) (by omega)
  have yc := wy.2.2
  rw [ra_cnt_li] at yc
  have ib := ra_it_le hc wy
  have lb := ra_len_le (by omega) wy
  unfold wpX_from
  refine xm_itemCount hy wy ?_
  have nl : (-nI (ra_len y)).toInt = -(ra_len y : Int) := sb_negT (by omega)
  by_cases a : x.2.2 0 < -nI (ra_len y)
  · have e : ra_PE c 12 x y = -3 := by
      rw [ra_PE12, if_pos (.inl (by rw [Int32.lt_iff_toInt_lt, nl] at a; exact a))]
    have := hp rk dm am (fun _ _ => ra_S_r) (fun z => absurd (e.symm.trans z) (by decide))
    rw [e] at this
    exact br_t a this
  · refine br_f a ?_
    by_cases b : x.2.2 0 < nI (ra_len y)
    · refine br_t b ?_
      have e : ra_PE c 12 x y = 0 := by
        rw [ra_PE12, if_neg]
        rw [Int32.lt_iff_toInt_lt, nl] at a
        rw [Int32.lt_iff_toInt_lt, nI_toInt (by omega)] at b
        omega
      have hidx : ra_idx (x.2.2 0) (ra_len y) < ra_len y := by
        unfold ra_idx
        by_cases z : x.2.2 0 < 0
        · rw [if_pos z]; exact (ra_idx_n (by omega) z a).2
        · rw [if_neg z]
          rw [ra_abs_p z, nI_ltI (by unfold ra_abs; have := Int32.toInt_lt (x.2.2 0); have := Int32.le_toInt (x.2.2 0); rw [Int32.lt_iff_toInt_lt, ra_t0] at z; omega) (by omega)] at b
          exact b
      have hin : ra_idx (x.2.2 0) (ra_len y) * ra_it y + ra_it y ≤ 32 := by
        have : (ra_idx (x.2.2 0) (ra_len y) + 1) * ra_it y ≤ ra_len y * ra_it y := Nat.mul_le_mul_right _ hidx
        rw [Nat.succ_mul] at this; omega
      have fin := hp (upd rk 10 (nI (y.1 - 1))) (ra_blk dm (10 * 3) (y.1 - 1) (fun i => dm (7 * 3 + 1 + i))) (ra_blk am (320 + 0 * ra_it y) (ra_it y) (fun i => am (224 + ra_idx (x.2.2 0) (ra_len y) * ra_it y + i)))
        (fun j hj => by rw [Nat.zero_mul]; exact ra_S_blk (by omega) (by omega) hj) (fun _ =>
        ra_P12 (s := 7) hy hidx pk_us (fun i hi => (ra_blk_in hi).trans (ht i hi)) (fun i hi => by rw [Nat.zero_mul, ← Nat.add_assoc]; exact ra_blk_in hi))
      rw [e] at fin
      dsimp only
      rw [hy.1]
      refine xm_product (s := 7) (f := 1) (d := y.2.1) (by decide) (by decide) y3 (fun i _ hi => hy.2.1 i hi) ?_
      refine xm_copyAxes (s := 7) (f := 1) (t := 10) (by decide) (by decide) (by decide) y3 (by decide) hy.1 ?_
      have mk : ∀ z : Int32, z = nI (ra_idx (x.2.2 0) (ra_len y)) → wX_from_55 post (nI (ra_it y)) z (nI c) fv oa ol ov (upd rk 10 (nI (y.1 - 1))) (ra_blk dm (10 * 3) (y.1 - 1) (fun i => dm (7 * 3 + 1 + i))) am xs ys xf yf fs fr wr wd := by
        intro z ez
        subst ez
        unfold wX_from_55
        exact xm_copyItem (k := 0) hin (by omega) fin
      by_cases z : x.2.2 0 < 0
      · refine br_f (Int32.not_le.mpr z) (mk _ ?_)
        unfold ra_idx
        rw [if_pos z]
        exact (ra_idx_n (by omega) z a).1
      · refine br_t (Int32.not_lt.mp z) (mk _ ?_)
        unfold ra_idx
        rw [if_neg z]
        exact ra_abs_p z
    · have e : ra_PE c 12 x y = -3 := by
        rw [ra_PE12, if_pos (.inr (by rw [Int32.lt_iff_toInt_lt, nI_toInt (by omega)] at b; omega))]
      have := hp rk dm am (fun _ _ => ra_S_r) (fun z => absurd (e.symm.trans z) (by decide))
      rw [e] at this
      exact br_f b this
end
end
section
/-! X: reshape, take, the primitive of a verb -/
theorem ra_cl_n {z : Int32} (h : ¬ z < 0) : z = nI z.toNatClampNeg := by
  obtain ⟨j, hj, rfl⟩ := nI_of h
  rw [nI_clamp hj]
theorem ra_cl_b (z : Int32) : z.toNatClampNeg < 2 ^ 31 := by
  have := Int32.toInt_lt z
  show z.toInt.toNat < 2 ^ 31
  omega
theorem ra_big_lim {c : Nat} {x : ra_A} (hc : c < 2 ^ 31) (h : ∀ i, i < ra_cnt x → ¬ x.2.2 i < 0) :
    ra_lim c (fun i => (x.2.2 i).toNatClampNeg) (ra_cnt x) = true ↔ (ra_big c x = true ∨ c < ra_prod (fun i => (x.2.2 i).toNatClampNeg) 0 (ra_cnt x)) := by
  have e : ra_any (fun i => decide (c < (x.2.2 i).toNatClampNeg)) (ra_cnt x) = ra_big c x := ra_any_congr _ (fun i hi => by
    have b := ra_cl_b (x.2.2 i)
    have q : nI c < x.2.2 i ↔ c < (x.2.2 i).toNatClampNeg := by
      have := ra_cl_n (h i hi)
      generalize (x.2.2 i).toNatClampNeg = m at this b ⊢
      rw [this]
      exact nI_ltI hc b
    exact (decide_eq_decide.mpr q).symm)
  unfold ra_lim
  rw [e, Bool.or_eq_true, decide_eq_true_iff]
section
variable {post : Int32 → SX → Prop} {c : Nat} {x y : ra_A} {fv oa ol ov : Int32} {rk dm am xs ys xf yf fs fr wr wd : Nat → Int32}
theorem xm_reshape (h8 : 8 ≤ c) (hc : c ≤ 32) (hx : ra_H rk dm am 5 x) (wx : ra_W c x) (hy : ra_H rk dm am 7 y) (wy : ra_W c y) (hp : ∀ rk' dm' am', (∀ j, j ≠ 10 → ra_S rk dm am rk' dm' am' j) → (ra_PE c 10 x y = 0 → ra_H rk' dm' am' 10 (ra_PA fv 10 x y)) → post (ra_PE c 10 x y) (nI c, fv, oa, ol, ov, rk', dm', am', xs, ys, xf, yf, fs, fr, wr, wd))
 : wpX_reshape post (nI c, fv, oa, ol, ov, rk, dm, am, xs, ys, xf, yf, fs, fr, wr, wd) := by
  have x3 := wx.1
  have y3 := wy.1
  have xc := wx.2.2
  have yc := wy.2.2
  have ha : ∀ i, i < ra_cnt x → am (160 + i) = x.2.2 i := fun i hi => hx.2.2 i hi
  unfold wpX_reshape
  dsimp only
  rw [hx.1]
  refine xm_product (s := 5) (f := 0) (d := x.2.1) (by decide) (by decide) x3 (fun i _ hi => hx.2.1 i hi) ?_
  show ∃ n, wX_reshape_15 post (nI (ra_cnt x)) (nI c) fv oa ol ov rk dm am xs ys xf yf fs fr wr wd n 0
  have key : ∀ k i, i + k = ra_cnt x → (∀ j, j < i → ¬ x.2.2 j < 0) → ∀ n, wX_reshape_15 post (nI (ra_cnt x)) (nI c) fv oa ol ov rk dm am xs ys xf yf fs fr wr wd (n + k + 1) (nI i) := by
    intro k
    induction k with
    | zero =>
      intro i hi h n
      have hi' : i = ra_cnt x := by omega
      subst hi'
      have hneg : ¬ ra_neg x = true := by
        unfold ra_neg
        rw [ra_any_f (ra_cnt x) (fun j hj => decide_eq_false (h j hj))]
        exact Bool.false_ne_true
      rw [wX_reshape_15]
      refine br_t (nI_le (Nat.le_refl _) (by omega)) ?_
      by_cases g3 : 3 < ra_cnt x
      · have e : ra_PE c 10 x y = -4 := by rw [ra_PE10, if_neg hneg, if_pos (.inl g3)]
        have := hp rk dm am (fun _ _ => ra_S_r) (fun z => absurd (e.symm.trans z) (by decide))
        rw [e] at this
        exact br_f (by rw [ra_gt3 (by omega)]; omega) this
      refine br_t (by rw [ra_gt3 (by omega)]; omega) ?_
      have bl := ra_big_lim (c := c) (by omega) h
      have hd : ∀ i, i < ra_cnt x → ra_blk dm 30 (ra_cnt x) (fun i => am (160 + i)) (10 * 3 + i) = nI (x.2.2 i).toNatClampNeg := fun i hi => by
        rw [ra_blk_in hi, ha i hi]; exact ra_cl_n (h i hi)
      refine ra_loop0 (fun m i => wX_reshape_52 post (nI (ra_cnt x)) (nI c) fv oa ol ov m (nI i) rk (ra_blk dm 30 i (fun i => am (160 + i))) am xs ys xf yf fs fr wr wd) (ra_cnt x) (fun m => ?_) (fun m i hi ih => ?_) (fun m h => ?_)
      · simp only [wX_reshape_52]
        refine br_t (nI_le (Nat.le_refl _) (by omega)) (nm_e ?_)
        refine xm_limitError (s := 10) (r := ra_cnt x) (d := fun i => (x.2.2 i).toNatClampNeg) hc (by decide) (by omega) pk_us hd (fun i _ => ra_cl_b _) ?_
        by_cases gl : ra_lim c (fun i => (x.2.2 i).toNatClampNeg) (ra_cnt x) = true
        · have e : ra_PE c 10 x y = -4 := by rw [ra_PE10, if_neg hneg, if_pos (.inr (bl.mp gl))]
          rw [if_pos gl]
          have := hp (upd rk 10 (nI (ra_cnt x))) (ra_blk dm 30 (ra_cnt x) (fun i => am (160 + i))) am (fun j hj => ⟨pk_un hj, fun i hi => ra_blk_out (by omega), fun _ _ => rfl⟩) (fun z => absurd (e.symm.trans z) (by decide))
          rw [e] at this
          exact br_f (by decide) this
        · have nl : ¬ (ra_big c x = true ∨ c < ra_prod (fun i => (x.2.2 i).toNatClampNeg) 0 (ra_cnt x)) := fun z => gl (bl.mpr z)
          have e : ra_PE c 10 x y = 0 := by rw [ra_PE10, if_neg hneg, if_neg (fun z => z.elim g3 nl)]
          have hT : ra_prod (fun i => (x.2.2 i).toNatClampNeg) 0 (ra_cnt x) ≤ c := Nat.le_of_not_lt fun z => nl (.inr z)
          rw [if_neg gl]
          refine br_t rfl ?_
          have fin := hp (upd rk 10 (nI (ra_cnt x))) (ra_blk dm 30 (ra_cnt x) (fun i => am (160 + i))) (ra_blk am 320 (ra_prod (fun i => (x.2.2 i).toNatClampNeg) 0 (ra_cnt x)) (fun i => if 0 < ra_cnt y then am (224 + i % ra_cnt y) else fv))
            (fun j hj => ⟨pk_un hj, fun i hi => ra_blk_out (by omega), fun i hi => ra_blk_out (by omega)⟩) (fun _ =>
            ra_P10 (s := 7) hy pk_us hd (fun i hi => ra_blk_in hi))
          rw [e] at fin
          refine xm_product (s := 10) (f := 0) (d := fun i => (x.2.2 i).toNatClampNeg) (by decide) (by decide) (by omega) (fun i _ hi => hd i hi) ?_
          rw [pk_un (by decide), hy.1]
          refine xm_product (s := 7) (f := 0) (d := y.2.1) (by decide) (by decide) y3 (fun i _ hi => (ra_blk_out (by omega)).trans (hy.2.1 i hi)) ?_
          rw [Nat.sub_zero, Nat.sub_zero]
          show ∃ n, wX_reshape_129 post _ (nI (ra_cnt y)) (nI c) fv oa ol ov n 0 (upd rk 10 (nI (ra_cnt x))) (ra_blk dm 30 (ra_cnt x) (fun i => am (160 + i))) am xs ys xf yf fs fr wr wd
          generalize ra_prod (fun i => (x.2.2 i).toNatClampNeg) 0 (ra_cnt x) = TT at fin hT ⊢
          refine ra_loop0 (fun m i => wX_reshape_129 post (nI TT) (nI (ra_cnt y)) (nI c) fv oa ol ov m (nI i) (upd rk 10 (nI (ra_cnt x))) (ra_blk dm 30 (ra_cnt x) (fun i => am (160 + i))) (ra_blk am 320 i (fun i => if 0 < ra_cnt y then am (224 + i % ra_cnt y) else fv)) xs ys xf yf fs fr wr wd) TT (fun m => ?_) (fun m i hi ih => ?_) (fun m h => ?_)
          · simp only [wX_reshape_129]
            exact br_t (nI_le (Nat.le_refl _) (by omega)) fin
          · simp only [wX_reshape_129]
            refine br_f (nI_ge hi (by omega)) ?_
            by_cases gy : 0 < ra_cnt y
            · refine br_f (nI_nle gy (by omega)) ⟨nI_ne0 gy (by omega), ?_⟩
              have hm := Nat.mod_lt i gy
              rw [pk_rem (by omega) gy (by omega), ra_k224, nI_clamp (by omega), ra_blk_out (by omega)]
              refine ⟨vp_in_nI (by omega) (by decide), ?_⟩
              unfold wX_reshape_159
              simp (disch := omega) only [ra_k320, nI_clamp, ra_inI, true_and, forall_eq, nI_1]
              rw [ra_blk_s (by rw [if_pos gy])]
              exact ih
            · refine br_t (by rw [ra_le0 (by omega)]; omega) ?_
              unfold wX_reshape_159
              simp (disch := omega) only [ra_k320, nI_clamp, ra_inI, true_and, forall_eq, nI_1]
              rw [ra_blk_s (by rw [if_neg gy])]
              exact ih
          · rw [ra_blk_0] at h
            exact h
      · simp (disch := omega) only [wX_reshape_52, ra_k160, ra_k30, nI_clamp, ra_inI, true_and, forall_eq, nI_1]
        refine br_f (nI_ge hi (by omega)) ?_
        rw [ra_blk_s rfl]
        exact ih
      · rw [ra_blk_0] at h
        exact h
    | succ k ih =>
      intro i hi h n
      rw [wX_reshape_15]
      simp (disch := omega) only [ra_k160, nI_clamp, ra_inI, true_and, forall_eq, nI_1]
      refine br_f (nI_ge (by omega) (by omega)) ?_
      rw [ha i (by omega)]
      by_cases g : x.2.2 i < 0
      · have e : ra_PE c 10 x y = -2 := by
          rw [ra_PE10, if_pos]
          exact ra_any_t _ i (by omega) (decide_eq_true g)
        have := hp rk dm am (fun _ _ => ra_S_r) (fun z => absurd (e.symm.trans z) (by decide))
        rw [e] at this
        exact br_f (Int32.not_le.mpr g) this
      · refine br_t (Int32.not_lt.mp g) (ih (i + 1) (by omega) (fun j hj => ?_) n)
        by_cases z : j = i
        · subst z; exact g
        · exact h j (by omega)
  exact ⟨_, key (ra_cnt x) 0 (Nat.zero_add _) (fun j hj => absurd hj (Nat.not_lt_zero j)) 0⟩
theorem xm_take30 {z0 : Int32} (h8 : 8 ≤ c) (hc : c ≤ 32) (hy : ra_H rk dm am 7 y) (wy : ra_W c y) (hm : ra_abs (x.2.2 0) ≤ c) (ez : z0 = nI (ra_abs (x.2.2 0))) (hp : ∀ rk' dm' am', (∀ j, j ≠ 10 → ra_S rk dm am rk' dm' am' j) → (ra_PE c 11 x y = 0 → ra_H rk' dm' am' 10 (ra_PA fv 11 x y)) → post (ra_PE c 11 x y) (nI c, fv, oa, ol, ov, rk', dm', am', xs, ys, xf, yf, fs, fr, wr, wd))
 : wX_take_30 post (x.2.2 0) z0 (nI c) fv oa ol ov rk dm am xs ys xf yf fs fr wr wd := by
  subst ez
  have y3 := wy.1
  have yc := wy.2.2
  rw [ra_cnt_li] at yc
  have ib := ra_it_le hc wy
  have lb := ra_len_le (by omega) wy
  have hin : ∀ j, j < ra_len y → j * ra_it y + ra_it y ≤ 32 := fun j hj => by
    have : (j + 1) * ra_it y ≤ ra_len y * ra_it y := Nat.mul_le_mul_right _ hj
    rw [Nat.succ_mul] at this; omega
  unfold wX_take_30
  refine xm_itemCount hy wy ?_
  rw [hy.1]
  refine xm_product (s := 7) (f := 1) (d := y.2.1) (by decide) (by decide) y3 (fun i _ hi => hy.2.1 i hi) ?_
  refine xm_copyAxes (s := 7) (f := 0) (t := 10) (by decide) (by decide) (by decide) y3 (by decide) hy.1 ?_
  show _ ∧ _
  have mk : wX_take_88 post (x.2.2 0) (nI (ra_abs (x.2.2 0))) (nI (ra_len y)) (nI (ra_it y)) (nI (if y.1 = 0 then 1 else y.1)) 10 (nI c) fv oa ol ov (upd rk 10 (nI (y.1 - 0))) (ra_blk dm (10 * 3) (y.1 - 0) (fun i => dm (7 * 3 + 0 + i))) am xs ys xf yf fs fr wr wd := by
    have r3 : (if y.1 = 0 then 1 else y.1) ≤ 3 := by split <;> omega
    have r1 : ∀ i, i < (if y.1 = 0 then 1 else y.1) → i ≠ 0 → i < y.1 := fun i hi h0 => by split at hi <;> omega
    have hd : ∀ i, i < (if y.1 = 0 then 1 else y.1) → upd (ra_blk dm (10 * 3) (y.1 - 0) (fun i => dm (7 * 3 + 0 + i))) 30 (nI (ra_abs (x.2.2 0))) (10 * 3 + i) = nI (if i = 0 then ra_abs (x.2.2 0) else y.2.1 i) := fun i hi => by
      by_cases e : i = 0
      · subst e; rw [if_pos rfl]; exact pk_us
      · rw [if_neg e, pk_un (by omega), ra_blk_in (by have := r1 i hi e; omega)]
        exact hy.2.1 i (r1 i hi e)
    unfold wX_take_88
    refine ⟨vp_in_nI (n := 10) (by decide) (by decide), nm_r (e' := upd rk 10 (nI (if y.1 = 0 then 1 else y.1))) (funext fun j => ?_) (nm_e ?_)⟩
    · show upd (upd rk 10 (nI (y.1 - 0))) 10 _ j = _
      by_cases e : j = 10
      · subst e; rw [pk_us, pk_us]
      · rw [pk_un e, pk_un e, pk_un e]
    refine xm_limitError (s := 10) (r := if y.1 = 0 then 1 else y.1) (d := fun i => if i = 0 then ra_abs (x.2.2 0) else y.2.1 i) hc (by decide) r3 pk_us hd (fun i hi => ?_) ?_
    · show (if i = 0 then ra_abs (x.2.2 0) else y.2.1 i) < 2 ^ 31
      by_cases e : i = 0
      · rw [if_pos e]; omega
      · rw [if_neg e]; have := wy.2.1 i (r1 i hi e); omega
    rw [ra_lim_le (fun i hi => by
      show (if i = 0 then ra_abs (x.2.2 0) else y.2.1 i) ≤ c
      by_cases e : i = 0
      · rw [if_pos e]; exact hm
      · rw [if_neg e]; exact wy.2.1 i (r1 i hi e)), show ra_prod (fun i => if i = 0 then ra_abs (x.2.2 0) else y.2.1 i) 0 (if y.1 = 0 then 1 else y.1) = ra_abs (x.2.2 0) * ra_it y from ra_take_cnt (a := y.2.2)]
    have hS : ∀ am', (∀ i, (i < 320 ∨ 352 ≤ i) → am' i = am i) → ∀ j, j ≠ 10 → ra_S rk dm am (upd rk 10 (nI (if y.1 = 0 then 1 else y.1))) (upd (ra_blk dm (10 * 3) (y.1 - 0) (fun i => dm (7 * 3 + 0 + i))) 30 (nI (ra_abs (x.2.2 0)))) am' j := fun am' ham j hj =>
      ⟨pk_un hj, fun i hi => by rw [pk_un (by omega), ra_blk_out (by omega)], fun i hi => ham _ (by omega)⟩
    by_cases g : c < ra_abs (x.2.2 0) * ra_it y
    · have e : ra_PE c 11 x y = -4 := by rw [ra_PE11, if_pos (.inr g)]
      rw [if_pos (decide_eq_true g)]
      have := hp _ _ am (hS am (fun _ _ => rfl)) (fun z => absurd (e.symm.trans z) (by decide))
      rw [e] at this
      exact br_f (by decide) this
    have e : ra_PE c 11 x y = 0 := by rw [ra_PE11, if_neg (fun z => z.elim (fun z => by omega) g)]
    rw [if_neg (fun z => g (of_decide_eq_true z))]
    refine br_t rfl ?_
    have fin := hp _ _ (ra_blk am 320 (ra_abs (x.2.2 0) * ra_it y) (fun n => if ra_src (x.2.2 0) (ra_len y) (n / ra_it y) < ra_len y then am (224 + (ra_src (x.2.2 0) (ra_len y) (n / ra_it y) * ra_it y + n % ra_it y)) else fv))
      (hS _ (fun i hi => ra_blk_out (by omega))) (fun _ => ra_P11 (s := 7) hy pk_us pk_us (fun i h1 hi => by
        rw [pk_un (by omega), ra_blk_in (by omega)]; exact hy.2.1 i hi) (fun n hn => ra_blk_in hn))
    rw [e] at fin
    generalize upd (ra_blk dm (10 * 3) (y.1 - 0) (fun i => dm (7 * 3 + 0 + i))) 30 (nI (ra_abs (x.2.2 0))) = dm2 at fin ⊢
    generalize upd rk 10 (nI (if y.1 = 0 then 1 else y.1)) = rk2 at fin ⊢
    have lp : ∀ sk : Int32, (∀ k, k < ra_abs (x.2.2 0) → (ra_src (x.2.2 0) (ra_len y) k < ra_len y → sk + nI k = nI (ra_src (x.2.2 0) (ra_len y) k)) ∧ (¬ ra_src (x.2.2 0) (ra_len y) k < ra_len y → sk + nI k < 0 ∨ nI (ra_len y) ≤ sk + nI k)) →
        ∃ n, wX_take_125 post (nI (ra_abs (x.2.2 0))) (nI (ra_len y)) (nI (ra_it y)) sk n 0 (nI c) fv oa ol ov rk2 dm2 am xs ys xf yf fs fr wr wd := by
      intro sk hsk
      refine ra_loop0 (fun n k => wX_take_125 post (nI (ra_abs (x.2.2 0))) (nI (ra_len y)) (nI (ra_it y)) sk n (nI k) (nI c) fv oa ol ov rk2 dm2 (ra_blk am 320 (k * ra_it y) (fun n => if ra_src (x.2.2 0) (ra_len y) (n / ra_it y) < ra_len y then am (224 + (ra_src (x.2.2 0) (ra_len y) (n / ra_it y) * ra_it y + n % ra_it y)) else fv)) xs ys xf yf fs fr wr wd) (ra_abs (x.2.2 0)) (fun n => ?_) (fun n k hk ih => ?_) (fun n h => ?_)
      · simp only [wX_take_125]
        exact br_t (nI_le (Nat.le_refl _) (by omega)) fin
      · have hk2 : k * ra_it y + ra_it y ≤ 32 := by
          have : (k + 1) * ra_it y ≤ ra_abs (x.2.2 0) * ra_it y := Nat.mul_le_mul_right _ hk
          rw [Nat.succ_mul] at this; omega
        simp only [wX_take_125]
        refine br_f (nI_ge hk (by omega)) (nm_e ?_)
        obtain ⟨s1, s2⟩ := hsk k hk
        by_cases g9 : ra_src (x.2.2 0) (ra_len y) k < ra_len y
        · rw [s1 g9]
          have hj := hin _ g9
          refine br_f (nI_pos (by omega)) (br_f (nI_ge g9 (by omega)) ?_)
          refine xm_copyItem hj hk2 ?_
          refine nm_r (nI_1 k) ?_
          rw [Nat.succ_mul] at ih
          rw [← ra_blk_blk (h := fun i => ra_blk am 320 (k * ra_it y) (fun n => if ra_src (x.2.2 0) (ra_len y) (n / ra_it y) < ra_len y then am (224 + (ra_src (x.2.2 0) (ra_len y) (n / ra_it y) * ra_it y + n % ra_it y)) else fv) (224 + ra_src (x.2.2 0) (ra_len y) k * ra_it y + i)) (fun i hi => by
            rw [ra_blk_out (by omega), (ra_item hi).1, (ra_item hi).2, if_pos g9, Nat.add_assoc])] at ih
          exact ih
        · have fl9 : wX_take_162 post (wX_take_125 post (nI (ra_abs (x.2.2 0))) (nI (ra_len y)) (nI (ra_it y)) sk n) (nI (ra_abs (x.2.2 0))) (nI (ra_len y)) (nI (ra_it y)) sk (nI k) (nI c) fv oa ol ov rk2 dm2 (ra_blk am 320 (k * ra_it y) (fun n => if ra_src (x.2.2 0) (ra_len y) (n / ra_it y) < ra_len y then am (224 + (ra_src (x.2.2 0) (ra_len y) (n / ra_it y) * ra_it y + n % ra_it y)) else fv)) xs ys xf yf fs fr wr wd := by
            unfold wX_take_162
            refine xm_fillItem hk2 ?_
            refine nm_r (nI_1 k) ?_
            rw [Nat.succ_mul] at ih
            rw [← ra_blk_blk (h := fun _ => fv) (fun i hi => by
              rw [(ra_item hi).1, if_neg g9])] at ih
            exact ih
          rcases s2 g9 with z | z
          · exact br_t z fl9
          · refine br_c (fun _ => fl9) (fun _ => br_t z fl9)
      · rw [Nat.zero_mul, ra_blk_0] at h
        exact h
    by_cases z : x.2.2 0 < 0
    · refine br_f (Int32.not_le.mpr z) (nm_e (lp _ (fun k hk => ?_)))
      by_cases z2 : ra_abs (x.2.2 0) ≤ ra_len y + k
      · rw [ra_src_n z z2]
        exact ⟨fun _ => ra_skip_p z2, fun q => absurd q (by omega)⟩
      · rw [ra_src_x z z2]
        exact ⟨fun q => absurd q (by omega), fun _ => .inl (ra_skip_n (by omega) (by omega))⟩
    · refine br_t (Int32.not_lt.mp z) (lp _ (fun k hk => ?_))
      rw [ra_src_p z, Int32.zero_add]
      exact ⟨fun _ => rfl, fun q => .inr (nI_le (by omega) (by omega))⟩
  by_cases e : y.1 = 0
  · rw [if_pos e] at mk
    refine br_t ?_ mk
    rw [pk_un (by decide), hy.1, e]; rfl
  · rw [if_neg e] at mk
    rw [pk_un (by decide), hy.1]
    exact br_f (nI_ne0 (by omega) (by omega)) mk
theorem xm_take (h8 : 8 ≤ c) (hc : c ≤ 32) (hy : ra_H rk dm am 7 y) (wy : ra_W c y) (hp : ∀ rk' dm' am', (∀ j, j ≠ 10 → ra_S rk dm am rk' dm' am' j) → (ra_PE c 11 x y = 0 → ra_H rk' dm' am' 10 (ra_PA fv 11 x y)) → post (ra_PE c 11 x y) (nI c, fv, oa, ol, ov, rk', dm', am', xs, ys, xf, yf, fs, fr, wr, wd))
 : wpX_take post (nI c, fv, oa, ol, ov, rk, dm, am, xs, ys, xf, yf, fs, fr, wr, wd) (x.2.2 0) := by
  have ab := ra_abs_c (z := x.2.2 0) (c := c) (by omega)
  unfold wpX_take
  by_cases g : c < ra_abs (x.2.2 0)
  · have e : ra_PE c 11 x y = -4 := by rw [ra_PE11, if_pos (.inl g)]
    have := hp rk dm am (fun _ _ => ra_S_r) (fun z => absurd (e.symm.trans z) (by decide))
    rw [e] at this
    rcases ab.mpr g with z | z
    · exact br_t z this
    · exact br_c (fun _ => this) (fun _ => br_f (Int32.not_le.mpr z) this)
  · refine br_f (fun z => g (ab.mp (.inl z))) (br_t (Int32.not_lt.mp fun z => g (ab.mp (.inr z))) ?_)
    by_cases z : x.2.2 0 < 0
    · exact br_f (Int32.not_le.mpr z) (xm_take30 h8 hc hy wy (by omega) (ra_abs_n z (by omega)) hp)
    · exact br_t (Int32.not_lt.mp z) (xm_take30 h8 hc hy wy (by omega) (ra_abs_p z) hp)
end
end
section
/-! X: a verb's primitive; A -/
section
variable {post : Int32 → SX → Prop} {c : Nat} {x y : ra_A} {fv oa ol ov : Int32} {rk dm am xs ys xf yf fs fr wr wd : Nat → Int32}
theorem xm_primitive {v : Nat} (hv : v ≤ 12) (h8 : 8 ≤ c) (hc : c ≤ 32) (hx : ra_H rk dm am 5 x) (hy : ra_H rk dm am 7 y) (wx : ra_W c x) (wy : ra_W c y) (hfx : x.1 ≤ ra_dL v) (hfy : y.1 ≤ ra_dR v) (hp : ∀ rk' dm' am', (∀ j, j ≠ 10 → ra_S rk dm am rk' dm' am' j) → (ra_PE c v x y = 0 → ra_H rk' dm' am' 10 (ra_PA fv v x y)) → post (ra_PE c v x y) (nI c, fv, oa, ol, ov, rk', dm', am', xs, ys, xf, yf, fs, fr, wr, wd))
 : wpX_primitive post (nI c, fv, oa, ol, ov, rk, dm, am, xs, ys, xf, yf, fs, fr, wr, wd) (nI v) := by
  have gx : x.1 = 0 → am 160 = x.2.2 0 := fun h => hx.2.2 0 (by rw [ra_cnt_r0 h]; decide)
  have gy : y.1 = 0 → am 224 = y.2.2 0 := fun h => hy.2.2 0 (by rw [ra_cnt_r0 h]; decide)
  unfold wpX_primitive
  refine nm_e (nm_e ?_)
  match v, hv with
  | 0, _ =>
    refine br_f (by decide) (br_f (by decide) (br_t rfl ?_))
    rw [gy (Nat.le_zero.mp hfy)]
    exact xm_giveScalar (v := 0) (ra_PEz (by decide) (by decide) (by decide) (by decide) (by decide)) (by unfold ra_PA; rw [if_pos rfl]) hp
  | 1, _ =>
    refine br_f (by decide) (br_f (by decide) (br_f (by decide) (br_t rfl ?_)))
    rw [gy (Nat.le_zero.mp hfy)]
    exact xm_iota hc hp
  | 2, _ =>
    refine br_f (by decide) (br_f (by decide) (br_f (by decide) (br_f (by decide) (br_t rfl ?_))))
    exact xm_shape hc hy wy hp
  | 3, _ =>
    refine br_f (by decide) (br_f (by decide) (br_f (by decide) (br_f (by decide) (br_f (by decide) (br_t rfl ?_)))))
    exact xm_reverse hc hy wy hp
  | 4, _ =>
    refine br_f (by decide) (br_f (by decide) (br_f (by decide) (br_f (by decide) (br_f (by decide) (br_f (by decide) (br_t rfl ?_))))))
    exact xm_sum h8 hc hy wy hp
  | 5, _ =>
    refine br_f (by decide) (br_f (by decide) (br_f (by decide) (br_f (by decide) (br_f (by decide) (br_f (by decide) (br_f (by decide) (br_t rfl ?_)))))))
    exact xm_ravel hc hy wy hp
  | 6, _ =>
    refine br_f (by decide) (br_f (by decide) (br_f (by decide) (br_f (by decide) (br_f (by decide) (br_f (by decide) (br_f (by decide) (br_f (by decide) (br_t rfl ?_))))))))
    rw [gy (Nat.le_zero.mp hfy), gx (Nat.le_zero.mp hfx)]
    exact xm_giveScalar (v := 6) (ra_PEz (by decide) (by decide) (by decide) (by decide) (by decide)) (by unfold ra_PA; rw [if_neg (by decide), if_neg (by decide), if_neg (by decide), if_neg (by decide), if_neg (by decide), if_neg (by decide), if_pos rfl]) hp
  | 7, _ =>
    refine br_f (by decide) (br_f (by decide) (br_f (by decide) (br_f (by decide) (br_f (by decide) (br_f (by decide) (br_f (by decide) (br_f (by decide) (br_f (by decide) (br_t rfl ?_)))))))))
    rw [gy (Nat.le_zero.mp hfy), gx (Nat.le_zero.mp hfx)]
    exact xm_giveScalar (v := 7) (ra_PEz (by decide) (by decide) (by decide) (by decide) (by decide)) (by unfold ra_PA; rw [if_neg (by decide), if_neg (by decide), if_neg (by decide), if_neg (by decide), if_neg (by decide), if_neg (by decide), if_neg (by decide), if_pos rfl]) hp
  | 8, _ =>
    refine br_f (by decide) (br_f (by decide) (br_f (by decide) (br_f (by decide) (br_f (by decide) (br_f (by decide) (br_f (by decide) (br_f (by decide) (br_f (by decide) (br_f (by decide) (br_t rfl ?_))))))))))
    rw [gy (Nat.le_zero.mp hfy), gx (Nat.le_zero.mp hfx)]
    exact xm_giveScalar (v := 8) (ra_PEz (by decide) (by decide) (by decide) (by decide) (by decide)) (by unfold ra_PA; rw [if_neg (by decide), if_neg (by decide), if_neg (by decide), if_neg (by decide), if_neg (by decide), if_neg (by decide), if_neg (by decide), if_neg (by decide), if_pos rfl]) hp
  | 9, _ =>
    refine br_f (by decide) (br_f (by decide) (br_f (by decide) (br_f (by decide) (br_f (by decide) (br_f (by decide) (br_f (by decide) (br_f (by decide) (br_f (by decide) (br_f (by decide) (br_f (by decide) (br_t rfl ?_)))))))))))
    rw [gy (Nat.le_zero.mp hfy), gx (Nat.le_zero.mp hfx)]
    unfold wX_primitive_148
    by_cases g : y.2.2 0 < x.2.2 0
    · exact br_f (Int32.not_le.mpr g) (xm_giveScalar (v := 9) (ra_PEz (by decide) (by decide) (by decide) (by decide) (by decide)) (by unfold ra_PA; rw [if_neg (by decide), if_neg (by decide), if_neg (by decide), if_neg (by decide), if_neg (by decide), if_neg (by decide), if_neg (by decide), if_neg (by decide), if_neg (by decide), if_pos rfl, if_pos g]) hp)
    · exact br_t (Int32.not_lt.mp g) (xm_giveScalar (v := 9) (ra_PEz (by decide) (by decide) (by decide) (by decide) (by decide)) (by unfold ra_PA; rw [if_neg (by decide), if_neg (by decide), if_neg (by decide), if_neg (by decide), if_neg (by decide), if_neg (by decide), if_neg (by decide), if_neg (by decide), if_neg (by decide), if_pos rfl, if_neg g]) hp)
  | 10, _ =>
    refine br_f (by decide) (br_f (by decide) (br_f (by decide) (br_f (by decide) (br_f (by decide) (br_f (by decide) (br_f (by decide) (br_f (by decide) (br_f (by decide) (br_f (by decide) (br_f (by decide) (br_f (by decide) (br_t rfl ?_))))))))))))
    exact xm_reshape h8 hc hx wx hy wy hp
  | 11, _ =>
    refine br_f (by decide) (br_f (by decide) (br_f (by decide) (br_f (by decide) (br_f (by decide) (br_f (by decide) (br_f (by decide) (br_f (by decide) (br_f (by decide) (br_f (by decide) (br_f (by decide) (br_f (by decide) (br_f (by decide) (br_t rfl ?_)))))))))))))
    rw [gx (Nat.le_zero.mp hfx)]
    exact xm_take h8 hc hy wy hp
  | 12, _ =>
    refine br_f (by decide) (br_t (by decide) ?_)
    rw [gx (Nat.le_zero.mp hfx)]
    exact xm_from h8 hc hy wy hp
end
end
section
/-! A at either level, X: what it keeps, its two loops -/
def xv_I (L sx sy fx fy : Nat) (rk0 dm0 am0 xs0 ys0 xf0 yf0 fs0 fr0 wr0 wd0 rk dm am xs ys xf yf fs fr wr wd : Nat → Int32) : Prop :=
  xv_V xs ys xf yf fs fr L sx sy fx fy ∧ (∀ N, N < L → xv_E N xs0 ys0 xf0 yf0 fs0 fr0 wr0 wd0 xs ys xf yf fs fr wr wd) ∧ ∀ j, xv_Q L j → ra_S rk0 dm0 am0 rk dm am j
theorem xv_I_g {L sx sy fx fy : Nat} {rk0 dm0 am0 xs0 ys0 xf0 yf0 fs0 fr0 wr0 wd0 rk dm am xs ys xf yf fs fr wr wd rk2 dm2 am2 xs2 ys2 xf2 yf2 fs2 fr2 wr2 wd2 : Nat → Int32} (h : xv_I L sx sy fx fy rk0 dm0 am0 xs0 ys0 xf0 yf0 fs0 fr0 wr0 wd0 rk dm am xs ys xf yf fs fr wr wd)
    (e : ∀ N, N ≤ L → xv_E N xs ys xf yf fs fr wr wd xs2 ys2 xf2 yf2 fs2 fr2 wr2 wd2) (s : ∀ j, xv_Q L j → ra_S rk dm am rk2 dm2 am2 j) : xv_I L sx sy fx fy rk0 dm0 am0 xs0 ys0 xf0 yf0 fs0 fr0 wr0 wd0 rk2 dm2 am2 xs2 ys2 xf2 yf2 fs2 fr2 wr2 wd2 :=
  ⟨xv_V_E (e L (Nat.le_refl L)) h.1, fun N hN => xv_E_t (h.2.1 N hN) (e N (Nat.le_of_lt hN)), fun j hj => ra_S_t (h.2.2 j hj) (s j hj)⟩
theorem xv_I_s {L sx sy fx fy : Nat} {rk0 dm0 am0 xs0 ys0 xf0 yf0 fs0 fr0 wr0 wd0 rk dm am xs ys xf yf fs fr wr wd rk2 dm2 am2 : Nat → Int32} (h : xv_I L sx sy fx fy rk0 dm0 am0 xs0 ys0 xf0 yf0 fs0 fr0 wr0 wd0 rk dm am xs ys xf yf fs fr wr wd)
    (s : ∀ j, xv_Q L j → ra_S rk dm am rk2 dm2 am2 j) : xv_I L sx sy fx fy rk0 dm0 am0 xs0 ys0 xf0 yf0 fs0 fr0 wr0 wd0 rk2 dm2 am2 xs ys xf yf fs fr wr wd :=
  ⟨h.1, h.2.1, fun j hj => ra_S_t (h.2.2 j hj) (s j hj)⟩
theorem xv_I_w {L sx sy fx fy : Nat} {rk0 dm0 am0 xs0 ys0 xf0 yf0 fs0 fr0 wr0 wd0 rk dm am xs ys xf yf fs fr wr wd wr2 wd2 : Nat → Int32} (h : xv_I L sx sy fx fy rk0 dm0 am0 xs0 ys0 xf0 yf0 fs0 fr0 wr0 wd0 rk dm am xs ys xf yf fs fr wr wd)
    (e : ∀ N, N ≠ L → wr2 N = wr N ∧ ∀ i, i < 3 → wd2 (N * 3 + i) = wd (N * 3 + i)) : xv_I L sx sy fx fy rk0 dm0 am0 xs0 ys0 xf0 yf0 fs0 fr0 wr0 wd0 rk dm am xs ys xf yf fs fr wr2 wd2 :=
  ⟨h.1, fun N hN => xv_E_t (h.2.1 N hN) ⟨rfl, rfl, rfl, rfl, rfl, rfl, (e N (Nat.ne_of_lt hN)).1, (e N (Nat.ne_of_lt hN)).2⟩, h.2.2⟩

theorem xb_1 {post : Int32 → SX → Prop} {c v : Nat} {x y : ra_A} {fv oa ol ov : Int32} {rk dm am xs ys xf yf fs fr wr wd : Nat → Int32} (hv : v ≤ 12) (h8 : 8 ≤ c) (hc : c ≤ 32) (wx : ra_W c x) (wy : ra_W c y) (hfit : 1 = 1 → x.1 ≤ ra_dL v ∧ y.1 ≤ ra_dR v)
    (h4 : ra_H rk dm am (4 + 1) x) (h6 : ra_H rk dm am (6 + 1) y)
    (hp : ∀ rk2 dm2 am2 xs2 ys2 xf2 yf2 fs2 fr2 wr2 wd2, (∀ N, N ≤ 1 → xv_E N xs ys xf yf fs fr wr wd xs2 ys2 xf2 yf2 fs2 fr2 wr2 wd2) → (∀ j, xv_P 1 j → ra_S rk dm am rk2 dm2 am2 j) → (ra_PE c v x y = 0 → ra_H rk2 dm2 am2 (9 + 1) (ra_PA fv v x y)) → post (ra_PE c v x y) (nI c, fv, oa, ol, ov, rk2, dm2, am2, xs2, ys2, xf2, yf2, fs2, fr2, wr2, wd2)) :
    wpX_primitive post (nI c, fv, oa, ol, ov, rk, dm, am, xs, ys, xf, yf, fs, fr, wr, wd) (nI v) :=
  xm_primitive hv h8 hc h4 h6 wx wy (hfit rfl).1 (hfit rfl).2 (fun rk' dm' am' a b => hp rk' dm' am' xs ys xf yf fs fr wr wd (fun _ _ => xv_E_r) (fun j hj => a j hj.1) b)


theorem xl2_1 {post : Int32 → SX → Prop} {c v fx fy sx sy P M K : Nat} {w : Nat → Nat} {x y : ra_A} {fv oa ol ov : Int32} {rk0 dm0 am0 xs0 ys0 xf0 yf0 fs0 fr0 wr0 wd0 : Nat → Int32}
    (hv : v ≤ 12) (h8 : 8 ≤ c) (hc : c ≤ 32) (wx : ra_W c x) (wy : ra_W c y) (hfx : fx ≤ x.1) (hfy : fy ≤ y.1) (hfit : 1 = 1 → x.1 - fx ≤ ra_dL v ∧ y.1 - fy ≤ ra_dR v)
    (hd : ra_dis x y (if fx < fy then fx else fy) = false) (eP : P = ra_pos x y fx fy) (pP : 0 < P)
    (hsx : sx < 12) (hsy : sy < 12) (qx : xv_Q 1 sx) (qy : xv_Q 1 sy) (hx0 : ra_H rk0 dm0 am0 sx x) (hy0 : ra_H rk0 dm0 am0 sy y)
    (hp : ∀ rk' dm' am' xs' ys' xf' yf' fs' fr' wr' wd', (∀ N, N < 1 → xv_E N xs0 ys0 xf0 yf0 fs0 fr0 wr0 wd0 xs' ys' xf' yf' fs' fr' wr' wd') → (∀ j, xv_Q 1 j → ra_S rk0 dm0 am0 rk' dm' am' j) →
      (ra_AE c fv (ra_PE c v) (ra_PA fv v) x y fx fy = 0 → ra_H rk' dm' am' (8 + 1) (ra_AA c fv (ra_PE c v) (ra_PA fv v) x y fx fy)) → post (ra_AE c fv (ra_PE c v) (ra_PA fv v) x y fx fy) (nI c, fv, oa, ol, ov, rk', dm', am', xs', ys', xf', yf', fs', fr', wr', wd'))

    (hz : ∀ i, i < P → ra_PE c v (ra_cx x y fx fy i) (ra_cy x y fx fy i) = 0) (eK : K = ra_K (ra_PA fv v) x y fx fy P) (ew : w = ra_w (ra_PA fv v) x y fx fy P) (eM : M = w 0 * w 1 * w 2) (k3 : ra_fr fx fy + K ≤ 3) (hM : P * M ≤ c) :
    ∀ k q, q + k = P → ∀ n rk dm am xs ys xf yf fs fr wr wd, xv_I 1 sx sy fx fy rk0 dm0 am0 xs0 ys0 xf0 yf0 fs0 fr0 wr0 wd0 rk dm am xs ys xf yf fs fr wr wd → xv_D wr wd 1 K w → rk (8 + 1) = nI (ra_fr fx fy + K) →
    (∀ i, i < ra_fr fx fy + K → dm ((8 + 1) * 3 + i) = nI (if i < ra_fr fx fy then ra_F x y fx fy i else w (i - ra_fr fx fy + (3 - K)))) →
    (∀ i, i < q * M → am ((8 + 1) * 32 + i) = (fun q i => ra_pl fv (w 1) (w 2) (ra_PA fv v (ra_cx x y fx fy q) (ra_cy x y fx fy q)) i) (i / M) (i % M)) →
    wX_applyInner_144 post (nI v) (nI P) (n + k + 1) (nI q) (nI c) fv oa ol ov rk dm am xs ys xf yf fs fr wr wd := by
  have hokk := ra_P_ok (fl := fv) h8 hc hv
  have zW : ∀ q, q < P → ra_W c (ra_PA fv v (ra_cx x y fx fy q) (ra_cy x y fx fy q)) := fun q hq =>
    hokk _ _ (ra_cx_W wx hfx hd (by omega)) (ra_cy_W wy hfy hd (by omega)) (hz q hq)
  have w32 : ∀ j, j < 3 → w j ≤ c := fun j hj => by rw [ew]; exact ra_max_le _ fun q hq => ra_lift_le (zW q hq) (by omega) hj
  have e0 : ra_AE c fv (ra_PE c v) (ra_PA fv v) x y fx fy = 0 := by
    rw [ra_AE_l hd (by omega) (by rw [← eP]; exact hz), if_neg]
    rw [← eP, ← eK, ← ew, ← eM]
    omega
  intro k
  induction k with
  | zero =>
    intro q hq n rk dm am xs ys xf yf fs fr wr wd hI hD hr hdm ha
    have hq' : q = P := by omega
    subst hq'
    rw [wX_applyInner_144]
    refine br_t (nI_le (Nat.le_refl _) (by have := ra_pos_le hc wx wy hfx hfy; omega)) ?_
    have := hp rk dm am xs ys xf yf fs fr wr wd hI.2.1 hI.2.2 (fun _ => ra_H_AA (by omega) eP eK ew eM rfl (by omega) hr hdm ha)
    rw [e0] at this
    exact this
  | succ k ih =>
    intro q hq n rk dm am xs ys xf yf fs fr wr wd hI hD hr hdm ha
    have hP := ra_pos_le hc wx wy hfx hfy
    have hq' : q < P := by omega
    have hx := ra_H_S hx0 wx hc (hI.2.2 sx qx)
    have hy := ra_H_S hy0 wy hc (hI.2.2 sy qy)
    rw [wX_applyInner_144]
    refine br_f (nI_ge hq' (by omega)) ?_
    refine xm_fetchCells (L := 1) (by decide) hc hI.1 hx hy wx wy hfx hfy hd (by omega) hsx hsy qx qy ?_
    intro rk1 dm1 am1 h4 h6 hS1
    refine xb_1 hv h8 hc (ra_cx_W wx hfx hd (by omega)) (ra_cy_W wy hfy hd (by omega)) hfit h4 h6 ?_
    intro rk2 dm2 am2 xs2 ys2 xf2 yf2 fs2 fr2 wr2 wd2 hE2 hS2 hR2
    have hI2 : xv_I 1 sx sy fx fy rk0 dm0 am0 xs0 ys0 xf0 yf0 fs0 fr0 wr0 wd0 rk2 dm2 am2 xs2 ys2 xf2 yf2 fs2 fr2 wr2 wd2 := xv_I_g (xv_I_s hI (fun j hj => hS1 j hj.2.1 hj.2.2.1)) hE2 (fun j hj => hS2 j hj.1)
    have hD2 := xv_D_E (hE2 1 (Nat.le_refl _)) hD
    have hS8 : ra_S rk dm am rk2 dm2 am2 (8 + 1) := ra_S_t (hS1 _ (by omega) (by omega)) (hS2 _ (by unfold xv_P; omega))
    have hqM : q * M + M ≤ 32 := by
      have : (q + 1) * M ≤ P * M := Nat.mul_le_mul_right _ hq'
      rw [Nat.succ_mul] at this; omega
    refine xm_placeCell (L := 1) (by decide) hc hD2 (hR2 (hz q hq')) (zW q hq') w32 eM hqM (by omega) ?_
    refine nm_r (nI_1 q) ?_
    refine ih (q + 1) (by omega) n _ _ _ _ _ _ _ _ _ _ _ (xv_I_s hI2 (fun j hj => ⟨rfl, fun _ _ => rfl, fun i hi => ra_blk_out (by have := hj.2.2.2; omega)⟩)) hD2 (hS8.1.trans hr)
      (fun i hi => (hS8.2.1 i (by omega)).trans (hdm i hi)) ?_
    refine ra_At_s (am := am) (b := (8 + 1) * 32) (M := M) (q := q) (val := fun q i => ra_pl fv (w 1) (w 2) (ra_PA fv v (ra_cx x y fx fy q) (ra_cy x y fx fy q)) i) ha (fun i hi => ?_) (fun i hi => ?_)
    · rw [ra_blk_out (by omega)]
      exact hS8.2.2 i (by omega)
    · rw [← Nat.add_assoc, ra_blk_in hi]
theorem xl1_1 {post : Int32 → SX → Prop} {c v fx fy sx sy P : Nat} {x y : ra_A} {fv oa ol ov : Int32} {rk0 dm0 am0 xs0 ys0 xf0 yf0 fs0 fr0 wr0 wd0 : Nat → Int32}
    (hv : v ≤ 12) (h8 : 8 ≤ c) (hc : c ≤ 32) (wx : ra_W c x) (wy : ra_W c y) (hfx : fx ≤ x.1) (hfy : fy ≤ y.1) (hfit : 1 = 1 → x.1 - fx ≤ ra_dL v ∧ y.1 - fy ≤ ra_dR v)
    (hd : ra_dis x y (if fx < fy then fx else fy) = false) (eP : P = ra_pos x y fx fy) (pP : 0 < P)
    (hsx : sx < 12) (hsy : sy < 12) (qx : xv_Q 1 sx) (qy : xv_Q 1 sy) (hx0 : ra_H rk0 dm0 am0 sx x) (hy0 : ra_H rk0 dm0 am0 sy y)
    (hp : ∀ rk' dm' am' xs' ys' xf' yf' fs' fr' wr' wd', (∀ N, N < 1 → xv_E N xs0 ys0 xf0 yf0 fs0 fr0 wr0 wd0 xs' ys' xf' yf' fs' fr' wr' wd') → (∀ j, xv_Q 1 j → ra_S rk0 dm0 am0 rk' dm' am' j) →
      (ra_AE c fv (ra_PE c v) (ra_PA fv v) x y fx fy = 0 → ra_H rk' dm' am' (8 + 1) (ra_AA c fv (ra_PE c v) (ra_PA fv v) x y fx fy)) → post (ra_AE c fv (ra_PE c v) (ra_PA fv v) x y fx fy) (nI c, fv, oa, ol, ov, rk', dm', am', xs', ys', xf', yf', fs', fr', wr', wd'))
 :
    ∀ k q, q + k = P → ∀ n rk dm am xs ys xf yf fs fr wr wd, xv_I 1 sx sy fx fy rk0 dm0 am0 xs0 ys0 xf0 yf0 fs0 fr0 wr0 wd0 rk dm am xs ys xf yf fs fr wr wd → xv_D wr wd 1 (ra_K (ra_PA fv v) x y fx fy q) (ra_w (ra_PA fv v) x y fx fy q) → (∀ i, i < q → ra_PE c v (ra_cx x y fx fy i) (ra_cy x y fx fy i) = 0) →
    wX_applyInner_86 post (nI v) (nI P) (n + k + 1) (nI q) (nI c) fv oa ol ov rk dm am xs ys xf yf fs fr wr wd := by
  have hokk := ra_P_ok (fl := fv) h8 hc hv
  have hP := ra_pos_le hc wx wy hfx hfy
  have zW : ∀ q, q < P → ra_PE c v (ra_cx x y fx fy q) (ra_cy x y fx fy q) = 0 → ra_W c (ra_PA fv v (ra_cx x y fx fy q) (ra_cy x y fx fy q)) := fun q hq =>
    hokk _ _ (ra_cx_W wx hfx hd (by omega)) (ra_cy_W wy hfy hd (by omega))
  intro k
  induction k with
  | zero =>
    intro q hq n rk dm am xs ys xf yf fs fr wr wd hI hD hz
    have hq' : q = P := by omega
    subst hq'
    have hx := ra_H_S hx0 wx hc (hI.2.2 sx qx)
    have hy := ra_H_S hy0 wy hc (hI.2.2 sy qy)
    have k3 : ra_K (ra_PA fv v) x y fx fy q ≤ 3 := ra_max_le _ fun i hi => (zW i hi (hz i hi)).1
    have w32 : ∀ j, j < 3 → ra_w (ra_PA fv v) x y fx fy q j ≤ c := fun j hj => ra_max_le _ fun i hi => ra_lift_le (zW i hi (hz i hi)) (by omega) hj
    have hF := ra_F_le wx wy hfx hfy
    have e1 := ra_AE_l (c := c) (fl := fv) (E := ra_PE c v) (R := ra_PA fv v) hd (by omega) (by rw [← eP]; exact hz)
    rw [← eP] at e1
    rw [wX_applyInner_86]
    refine br_t (nI_le (Nat.le_refl _) (by omega)) ?_
    refine xm_shapeResult (L := 1) (by decide) h8 hc hI.1 hD k3 w32 hx hy wx wy hfx hfy hsx hsy qx qy ?_ ?_
    · intro h3
      rw [if_pos (.inl h3)] at e1
      have := hp rk dm am xs ys xf yf fs fr wr wd hI.2.1 hI.2.2 (fun z => absurd (e1.symm.trans z) (by decide))
      rw [e1] at this
      exact br_f (by decide) this
    · intro h3 rk2 dm2 hr hdm hS
      rw [ra_lim_g hF w32 k3 (ra_w_1 (by omega))]
      have hI2 := xv_I_s (rk2 := rk2) (dm2 := dm2) (am2 := am) hI (fun j hj => hS j hj.2.2.2)
      by_cases hl : c < q * (ra_w (ra_PA fv v) x y fx fy q 0 * ra_w (ra_PA fv v) x y fx fy q 1 * ra_w (ra_PA fv v) x y fx fy q 2)
      · rw [if_pos (.inr hl)] at e1
        have := hp _ _ _ _ _ _ _ _ _ _ _ hI2.2.1 hI2.2.2 (fun z => absurd (e1.symm.trans z) (by decide))
        rw [e1] at this
        rw [if_pos (decide_eq_true (by first | exact hl | (rw [eP] at hl ⊢; exact hl)))]
        exact br_f (by decide) this
      · rw [if_neg (fun z => hl (by have z' := of_decide_eq_true z; first | exact z' | (rw [eP]; rw [eP] at z'; exact z')))]
        refine br_t rfl ⟨_, xl2_1 hv h8 hc wx wy hfx hfy hfit hd eP pP hsx hsy qx qy hx0 hy0 hp hz rfl rfl rfl h3 (Nat.le_of_not_lt hl) q 0 (Nat.zero_add q) 0 _ _ _ _ _ _ _ _ _ _ _ hI2 hD hr hdm ?_⟩
        intro i hi
        rw [Nat.zero_mul] at hi
        omega
  | succ k ih =>
    intro q hq n rk dm am xs ys xf yf fs fr wr wd hI hD hz
    have hq' : q < P := by omega
    have hx := ra_H_S hx0 wx hc (hI.2.2 sx qx)
    have hy := ra_H_S hy0 wy hc (hI.2.2 sy qy)
    rw [wX_applyInner_86]
    refine br_f (nI_ge hq' (by omega)) ?_
    refine xm_fetchCells (L := 1) (by decide) hc hI.1 hx hy wx wy hfx hfy hd (by omega) hsx hsy qx qy ?_
    intro rk1 dm1 am1 h4 h6 hS1
    refine xb_1 hv h8 hc (ra_cx_W wx hfx hd (by omega)) (ra_cy_W wy hfy hd (by omega)) hfit h4 h6 ?_
    intro rk2 dm2 am2 xs2 ys2 xf2 yf2 fs2 fr2 wr2 wd2 hE2 hS2 hR2
    have hI2 : xv_I 1 sx sy fx fy rk0 dm0 am0 xs0 ys0 xf0 yf0 fs0 fr0 wr0 wd0 rk2 dm2 am2 xs2 ys2 xf2 yf2 fs2 fr2 wr2 wd2 := xv_I_g (xv_I_s hI (fun j hj => hS1 j hj.2.1 hj.2.2.1)) hE2 (fun j hj => hS2 j hj.1)
    have hD2 := xv_D_E (hE2 1 (Nat.le_refl _)) hD
    by_cases he : ra_PE c v (ra_cx x y fx fy q) (ra_cy x y fx fy q) = 0
    · refine br_t he ?_
      have zw := zW q hq' he
      have k3 : ra_K (ra_PA fv v) x y fx fy q ≤ 3 := ra_max_le _ fun i hi => (zW i (by omega) (hz i hi)).1
      have w32 : ∀ j, j < 3 → ra_w (ra_PA fv v) x y fx fy q j ≤ c := fun j hj => ra_max_le _ fun i hi => ra_lift_le (zW i (by omega) (hz i hi)) (by omega) hj
      refine xm_widen (L := 1) (by decide) hc hD2 k3 w32 (hR2 he) zw (by omega) ?_
      intro wr3 wd3 hD3 hE3
      refine nm_r (nI_1 q) ?_
      refine ih (q + 1) (by omega) n _ _ _ _ _ _ _ _ _ _ _ (xv_I_w hI2 hE3) hD3 (fun i hi => ?_)
      by_cases z : i = q
      · subst z; exact he
      · exact hz i (by omega)
    · refine br_f he ?_
      have e1 := ra_AE_e (c := c) (fl := fv) (E := ra_PE c v) (R := ra_PA fv v) hd (q := q) (by omega) hz he
      have := hp _ _ _ _ _ _ _ _ _ _ _ hI2.2.1 hI2.2.2 (fun z => absurd (e1.symm.trans z) he)
      rw [e1] at this
      exact this

theorem xj_1 {post : Int32 → SX → Prop} {c v fx fy sx sy K : Nat} {w : Nat → Nat} {x y : ra_A} {fv oa ol ov : Int32} {rk0 dm0 am0 xs0 ys0 xf0 yf0 fs0 fr0 wr0 wd0 rk dm am xs ys xf yf fs fr wr wd : Nat → Int32}
    (h8 : 8 ≤ c) (hc : c ≤ 32) (wx : ra_W c x) (wy : ra_W c y) (hfx : fx ≤ x.1) (hfy : fy ≤ y.1)
    (hd : ra_dis x y (if fx < fy then fx else fy) = false) (p0 : ra_pos x y fx fy = 0)
    (hsx : sx < 12) (hsy : sy < 12) (qx : xv_Q 1 sx) (qy : xv_Q 1 sy) (hx0 : ra_H rk0 dm0 am0 sx x) (hy0 : ra_H rk0 dm0 am0 sy y)
    (hp : ∀ rk' dm' am' xs' ys' xf' yf' fs' fr' wr' wd', (∀ N, N < 1 → xv_E N xs0 ys0 xf0 yf0 fs0 fr0 wr0 wd0 xs' ys' xf' yf' fs' fr' wr' wd') → (∀ j, xv_Q 1 j → ra_S rk0 dm0 am0 rk' dm' am' j) →
      (ra_AE c fv (ra_PE c v) (ra_PA fv v) x y fx fy = 0 → ra_H rk' dm' am' (8 + 1) (ra_AA c fv (ra_PE c v) (ra_PA fv v) x y fx fy)) → post (ra_AE c fv (ra_PE c v) (ra_PA fv v) x y fx fy) (nI c, fv, oa, ol, ov, rk', dm', am', xs', ys', xf', yf', fs', fr', wr', wd'))
    (hI : xv_I 1 sx sy fx fy rk0 dm0 am0 xs0 ys0 xf0 yf0 fs0 fr0 wr0 wd0 rk dm am xs ys xf yf fs fr wr wd) (hD : xv_D wr wd 1 K w) (eK : K = (ra_S0 c fv (ra_PE c v) (ra_PA fv v) x y fx fy).1) (k3 : K ≤ 3) (w32 : ∀ j, j < 3 → w j ≤ c)
    (ew : ∀ i, i < K → w (i + (3 - K)) = (ra_S0 c fv (ra_PE c v) (ra_PA fv v) x y fx fy).2.1 i) : wX_applyInner_77 post (nI c) fv oa ol ov rk dm am xs ys xf yf fs fr wr wd := by
  have hx := ra_H_S hx0 wx hc (hI.2.2 sx qx)
  have hy := ra_H_S hy0 wy hc (hI.2.2 sy qy)
  have hF := ra_F_le wx wy hfx hfy
  have e1 := ra_AE_0 (c := c) (fl := fv) (E := ra_PE c v) (R := ra_PA fv v) hd p0
  rw [← eK] at e1
  unfold wX_applyInner_77
  refine xm_shapeResult (L := 1) (by decide) h8 hc hI.1 hD k3 w32 hx hy wx wy hfx hfy hsx hsy qx qy ?_ ?_
  · intro h3
    rw [if_pos h3] at e1
    have := hp rk dm am xs ys xf yf fs fr wr wd hI.2.1 hI.2.2 (fun z => absurd (e1.symm.trans z) (by decide))
    rw [e1] at this
    exact this
  · intro h3 rk2 dm2 hr hdm hS
    have hI2 := xv_I_s (rk2 := rk2) (dm2 := dm2) (am2 := am) hI (fun j hj => hS j hj.2.2.2)
    rw [ra_lim_0 (G := fun i => w (i + (3 - K))) hF (fun i hi => w32 _ (by omega)) p0, if_neg (by decide)]
    rw [if_neg (by omega)] at e1
    have := hp _ _ _ _ _ _ _ _ _ _ _ hI2.2.1 hI2.2.2 (fun _ => ra_H_A0 (G := fun i => w (i + (3 - K))) p0 eK ew hr hdm)
    rw [e1] at this
    exact this


theorem xm_applyInner {post : Int32 → SX → Prop} {c v : Nat} {x y : ra_A} {fv oa ol ov : Int32} {rk dm am xs ys xf yf fs fr wr wd : Nat → Int32} (hv : v ≤ 12) (h8 : 8 ≤ c) (hc : c ≤ 32) (wx : ra_W c x) (wy : ra_W c y)
    (hx0 : ra_H rk dm am 4 x) (hy0 : ra_H rk dm am 6 y)
    (hp : ∀ rk' dm' am' xs' ys' xf' yf' fs' fr' wr' wd', (∀ N, N < 1 → xv_E N xs ys xf yf fs fr wr wd xs' ys' xf' yf' fs' fr' wr' wd') → (∀ j, xv_Q 1 j → ra_S rk dm am rk' dm' am' j) →
      (ra_BE c fv v x y = 0 → ra_H rk' dm' am' (8 + 1) (ra_BA c fv v x y)) → post (ra_BE c fv v x y) (nI c, fv, oa, ol, ov, rk', dm', am', xs', ys', xf', yf', fs', fr', wr', wd')) : wpX_applyInner post (nI c, fv, oa, ol, ov, rk, dm, am, xs, ys, xf, yf, fs, fr, wr, wd) (nI v) := by
  unfold ra_BE ra_BA at hp
  have x3 := wx.1
  have y3 := wy.1
  have hfit : 1 = 1 → x.1 - (x.1 - ra_eff (nI (ra_dL v)) x.1) ≤ ra_dL v ∧ y.1 - (y.1 - ra_eff (nI (ra_dR v)) y.1) ≤ ra_dR v := fun _ =>
    ⟨ra_fc_fit x3 (by have := ra_dL_1 v; omega), ra_fc_fit y3 (ra_dR_3 v)⟩
  have hfx : x.1 - ra_eff (nI (ra_dL v)) x.1 ≤ x.1 := Nat.sub_le _ _
  have hfy : y.1 - ra_eff (nI (ra_dR v)) y.1 ≤ y.1 := Nat.sub_le _ _
  generalize efx : x.1 - ra_eff (nI (ra_dL v)) x.1 = fx at hp hfit hfx
  generalize efy : y.1 - ra_eff (nI (ra_dR v)) y.1 = fy at hp hfit hfy
  have hsx : 4 < 12 := by decide
  have hsy : 6 < 12 := by decide
  have qx : xv_Q 1 4 := by unfold xv_Q xv_P; omega
  have qy : xv_Q 1 6 := by unfold xv_Q xv_P; omega
  unfold wpX_applyInner
  refine xm_leftRank hv ?_
  refine xm_rightRank hv ?_
  refine xm_split (L := 1) (sx := 4) (sy := 6) (by decide) hc hsx hsy wx wy hx0 hy0 efx.symm efy.symm ?_ ?_
  · intro hd
    have e1 := ra_AE_d (c := c) (fl := fv) (E := ra_PE c v) (R := ra_PA fv v) hd
    have := hp rk dm am xs ys xf yf fs fr wr wd (fun _ _ => xv_E_r) (fun _ _ => ra_S_r) (fun z => absurd (e1.symm.trans z) (by decide))
    rw [e1] at this
    exact br_f (by decide) this
  · intro hd xs1 ys1 xf1 yf1 fs1 fr1 wr1 wd1 hV hD hE
    refine br_t rfl ?_
    have hI : xv_I 1 4 6 fx fy rk dm am xs ys xf yf fs fr wr wd rk dm am xs1 ys1 xf1 yf1 fs1 fr1 wr1 wd1 := ⟨hV, fun N hN => hE N (Nat.ne_of_lt hN), fun _ _ => ra_S_r⟩
    have hF := xv_frame hx0 hy0 hfx hfy
    have fr3 := ra_fr_3 wx wy hfx hfy
    have hP := ra_pos_le hc wx wy hfx hfy
    have hokk := ra_P_ok (fl := fv) h8 hc hv
    have hsl : (if fy < fx then 4 else 6) < 12 := by
      split
      · exact hsx
      · exact hsy
    rw [hV.2.2.2.2.1, hV.2.2.2.2.2]
    refine xm_product (f := 0) (d := ra_F x y fx fy) hsl (by decide) fr3 (fun i _ hi => hF i hi) ?_
    by_cases p0 : ra_pos x y fx fy = 0
    · refine br_t (by rw [Nat.sub_zero, show ra_prod (ra_F x y fx fy) 0 (ra_fr fx fy) = 0 from p0]; rfl) ?_
      refine xm_fillCells (L := 1) (by decide) hc hV hx0 hy0 wx wy hfx hfy hsx hsy qx qy ?_
      intro rk2 dm2 am2 hfc hS2
      have hI2 := xv_I_s hI (fun j hj => hS2 j hj.2.1 hj.2.2.1)
      by_cases hb : ra_size x fx ≤ c ∧ ra_size y fy ≤ c
      · rw [if_pos hb]
        refine br_f (by decide) ?_
        refine xb_1 hv h8 hc (ra_fc_W wx hb.1) (ra_fc_W wy hb.2) hfit (hfc hb).1 (hfc hb).2 ?_
        intro rk3 dm3 am3 xs3 ys3 xf3 yf3 fs3 fr3 wr3 wd3 hE3 hS3 hR3
        have hI3 := xv_I_g hI2 hE3 (fun j hj => hS3 j hj.1)
        have hD3 := xv_D_E (hE3 1 (Nat.le_refl _)) hD
        by_cases he : ra_PE c v (ra_fc fv x fx) (ra_fc fv y fy) = 0
        · refine br_t he ?_
          have es : ra_S0 c fv (ra_PE c v) (ra_PA fv v) x y fx fy = ra_PA fv v (ra_fc fv x fx) (ra_fc fv y fy) := by
            unfold ra_S0; rw [if_neg (by omega), if_pos he]
          have wz := hokk _ _ (ra_fc_W wx hb.1) (ra_fc_W wy hb.2) he
          refine xm_widen (L := 1) (by decide) hc hD3 (by decide) (fun j _ => Nat.zero_le _) (hR3 he) wz (by omega) ?_
          intro wr4 wd4 hD4 hE4
          refine xj_1 (v := v) h8 hc wx wy hfx hfy hd p0 hsx hsy qx qy hx0 hy0 hp (xv_I_w hI3 hE4) hD4 ?_ ?_ (fun j hj => ?_) (fun i hi => ?_)
          · rw [es]; split <;> omega
          · have := wz.1; split <;> omega
          · have := ra_lift_le wz (by omega) hj
            show (if 0 < ra_lift _ j then ra_lift _ j else 0) ≤ c
            split <;> omega
          · have w3 := wz.1
            have eK : (if 0 < (ra_PA fv v (ra_fc fv x fx) (ra_fc fv y fy)).1 then (ra_PA fv v (ra_fc fv x fx) (ra_fc fv y fy)).1 else 0) = (ra_PA fv v (ra_fc fv x fx) (ra_fc fv y fy)).1 := by split <;> omega
            rw [eK] at hi ⊢
            rw [es]
            show (if 0 < ra_lift _ _ then ra_lift _ _ else 0) = _
            rw [ra_lift_hi w3 hi]
            split <;> omega
        · refine br_f he ?_
          have es : ra_S0 c fv (ra_PE c v) (ra_PA fv v) x y fx fy = ra_sc 0 := by
            unfold ra_S0; rw [if_neg (by omega), if_neg he]
          exact xj_1 (v := v) h8 hc wx wy hfx hfy hd p0 hsx hsy qx qy hx0 hy0 hp hI3 hD3 (by rw [es]; rfl) (by decide) (fun j hj => Nat.zero_le _) (fun i hi => absurd hi (Nat.not_lt_zero i))
      · rw [if_neg hb]
        refine br_t rfl ?_
        have es : ra_S0 c fv (ra_PE c v) (ra_PA fv v) x y fx fy = ra_sc 0 := by
          unfold ra_S0; rw [if_pos (by omega)]
        exact xj_1 (v := v) h8 hc wx wy hfx hfy hd p0 hsx hsy qx qy hx0 hy0 hp hI2 hD (by rw [es]; rfl) (by decide) (fun j hj => Nat.zero_le _) (fun i hi => absurd hi (Nat.not_lt_zero i))
    · have pp : 0 < ra_pos x y fx fy := Nat.pos_of_ne_zero p0
      refine br_f (show ¬ nI (ra_pos x y fx fy) = 0 from nI_ne0 pp (by omega)) ⟨_, xl1_1 hv h8 hc wx wy hfx hfy hfit hd rfl pp hsx hsy qx qy hx0 hy0 hp (ra_pos x y fx fy) 0 (Nat.zero_add _) 0 _ _ _ _ _ _ _ _ _ _ _ hI hD (fun i hi => absurd hi (Nat.not_lt_zero i))⟩

theorem xb_0 {post : Int32 → SX → Prop} {c v : Nat} {x y : ra_A} {fv oa ol ov : Int32} {rk dm am xs ys xf yf fs fr wr wd : Nat → Int32} (hv : v ≤ 12) (h8 : 8 ≤ c) (hc : c ≤ 32) (wx : ra_W c x) (wy : ra_W c y) {fx fy : Nat} {x0 y0 : ra_A} (hfit : 0 = 1 → x0.1 - fx ≤ ra_dL v ∧ y0.1 - fy ≤ ra_dR v)
    (h4 : ra_H rk dm am (4 + 0) x) (h6 : ra_H rk dm am (6 + 0) y)
    (hp : ∀ rk2 dm2 am2 xs2 ys2 xf2 yf2 fs2 fr2 wr2 wd2, (∀ N, N ≤ 0 → xv_E N xs ys xf yf fs fr wr wd xs2 ys2 xf2 yf2 fs2 fr2 wr2 wd2) → (∀ j, xv_P 0 j → ra_S rk dm am rk2 dm2 am2 j) → (ra_BE c fv v x y = 0 → ra_H rk2 dm2 am2 (9 + 0) (ra_BA c fv v x y)) → post (ra_BE c fv v x y) (nI c, fv, oa, ol, ov, rk2, dm2, am2, xs2, ys2, xf2, yf2, fs2, fr2, wr2, wd2)) :
    wpX_applyInner post (nI c, fv, oa, ol, ov, rk, dm, am, xs, ys, xf, yf, fs, fr, wr, wd) (nI v) :=
  xm_applyInner hv h8 hc wx wy h4 h6 (fun rk' dm' am' xs' ys' xf' yf' fs' fr' wr' wd' a b d => hp rk' dm' am' xs' ys' xf' yf' fs' fr' wr' wd' (fun N hN => a N (by omega)) (fun j hj => b j (xv_Q_1.mpr hj)) d)
end
section
/-! X: A as a call asks for it -/


theorem xl2_0 {post : Int32 → SX → Prop} {c v fx fy sx sy P M K : Nat} {w : Nat → Nat} {x y : ra_A} {fv oa ol ov : Int32} {rk0 dm0 am0 xs0 ys0 xf0 yf0 fs0 fr0 wr0 wd0 : Nat → Int32}
    (hv : v ≤ 12) (h8 : 8 ≤ c) (hc : c ≤ 32) (wx : ra_W c x) (wy : ra_W c y) (hfx : fx ≤ x.1) (hfy : fy ≤ y.1) (hfit : 0 = 1 → x.1 - fx ≤ ra_dL v ∧ y.1 - fy ≤ ra_dR v)
    (hd : ra_dis x y (if fx < fy then fx else fy) = false) (eP : P = ra_pos x y fx fy) (pP : 0 < P)
    (hsx : sx < 12) (hsy : sy < 12) (qx : xv_Q 0 sx) (qy : xv_Q 0 sy) (hx0 : ra_H rk0 dm0 am0 sx x) (hy0 : ra_H rk0 dm0 am0 sy y)
    (hp : ∀ rk' dm' am' xs' ys' xf' yf' fs' fr' wr' wd', (∀ N, N < 0 → xv_E N xs0 ys0 xf0 yf0 fs0 fr0 wr0 wd0 xs' ys' xf' yf' fs' fr' wr' wd') → (∀ j, xv_Q 0 j → ra_S rk0 dm0 am0 rk' dm' am' j) →
      (ra_AE c fv (ra_BE c fv v) (ra_BA c fv v) x y fx fy = 0 → ra_H rk' dm' am' (8 + 0) (ra_AA c fv (ra_BE c fv v) (ra_BA c fv v) x y fx fy)) → post (ra_AE c fv (ra_BE c fv v) (ra_BA c fv v) x y fx fy) (nI c, fv, oa, ol, ov, rk', dm', am', xs', ys', xf', yf', fs', fr', wr', wd'))

    (hz : ∀ i, i < P → ra_BE c fv v (ra_cx x y fx fy i) (ra_cy x y fx fy i) = 0) (eK : K = ra_K (ra_BA c fv v) x y fx fy P) (ew : w = ra_w (ra_BA c fv v) x y fx fy P) (eM : M = w 0 * w 1 * w 2) (k3 : ra_fr fx fy + K ≤ 3) (hM : P * M ≤ c) :
    ∀ k q, q + k = P → ∀ n rk dm am xs ys xf yf fs fr wr wd, xv_I 0 sx sy fx fy rk0 dm0 am0 xs0 ys0 xf0 yf0 fs0 fr0 wr0 wd0 rk dm am xs ys xf yf fs fr wr wd → xv_D wr wd 0 K w → rk (8 + 0) = nI (ra_fr fx fy + K) →
    (∀ i, i < ra_fr fx fy + K → dm ((8 + 0) * 3 + i) = nI (if i < ra_fr fx fy then ra_F x y fx fy i else w (i - ra_fr fx fy + (3 - K)))) →
    (∀ i, i < q * M → am ((8 + 0) * 32 + i) = (fun q i => ra_pl fv (w 1) (w 2) (ra_BA c fv v (ra_cx x y fx fy q) (ra_cy x y fx fy q)) i) (i / M) (i % M)) →
    wX_applyOuter_133 post (nI v) (nI P) (n + k + 1) (nI q) (nI c) fv oa ol ov rk dm am xs ys xf yf fs fr wr wd := by
  have hokk := ra_B_ok (fl := fv) h8 hc hv
  have zW : ∀ q, q < P → ra_W c (ra_BA c fv v (ra_cx x y fx fy q) (ra_cy x y fx fy q)) := fun q hq =>
    hokk _ _ (ra_cx_W wx hfx hd (by omega)) (ra_cy_W wy hfy hd (by omega)) (hz q hq)
  have w32 : ∀ j, j < 3 → w j ≤ c := fun j hj => by rw [ew]; exact ra_max_le _ fun q hq => ra_lift_le (zW q hq) (by omega) hj
  have e0 : ra_AE c fv (ra_BE c fv v) (ra_BA c fv v) x y fx fy = 0 := by
    rw [ra_AE_l hd (by omega) (by rw [← eP]; exact hz), if_neg]
    rw [← eP, ← eK, ← ew, ← eM]
    omega
  intro k
  induction k with
  | zero =>
    intro q hq n rk dm am xs ys xf yf fs fr wr wd hI hD hr hdm ha
    have hq' : q = P := by omega
    subst hq'
    rw [wX_applyOuter_133]
    refine br_t (nI_le (Nat.le_refl _) (by have := ra_pos_le hc wx wy hfx hfy; omega)) ?_
    have := hp rk dm am xs ys xf yf fs fr wr wd hI.2.1 hI.2.2 (fun _ => ra_H_AA (by omega) eP eK ew eM rfl (by omega) hr hdm ha)
    rw [e0] at this
    exact this
  | succ k ih =>
    intro q hq n rk dm am xs ys xf yf fs fr wr wd hI hD hr hdm ha
    have hP := ra_pos_le hc wx wy hfx hfy
    have hq' : q < P := by omega
    have hx := ra_H_S hx0 wx hc (hI.2.2 sx qx)
    have hy := ra_H_S hy0 wy hc (hI.2.2 sy qy)
    rw [wX_applyOuter_133]
    refine br_f (nI_ge hq' (by omega)) ?_
    refine xm_fetchCells (L := 0) (by decide) hc hI.1 hx hy wx wy hfx hfy hd (by omega) hsx hsy qx qy ?_
    intro rk1 dm1 am1 h4 h6 hS1
    refine xb_0 hv h8 hc (ra_cx_W wx hfx hd (by omega)) (ra_cy_W wy hfy hd (by omega)) hfit h4 h6 ?_
    intro rk2 dm2 am2 xs2 ys2 xf2 yf2 fs2 fr2 wr2 wd2 hE2 hS2 hR2
    have hI2 : xv_I 0 sx sy fx fy rk0 dm0 am0 xs0 ys0 xf0 yf0 fs0 fr0 wr0 wd0 rk2 dm2 am2 xs2 ys2 xf2 yf2 fs2 fr2 wr2 wd2 := xv_I_g (xv_I_s hI (fun j hj => hS1 j hj.2.1 hj.2.2.1)) hE2 (fun j hj => hS2 j hj.1)
    have hD2 := xv_D_E (hE2 0 (Nat.le_refl _)) hD
    have hS8 : ra_S rk dm am rk2 dm2 am2 (8 + 0) := ra_S_t (hS1 _ (by omega) (by omega)) (hS2 _ (by unfold xv_P; omega))
    have hqM : q * M + M ≤ 32 := by
      have : (q + 1) * M ≤ P * M := Nat.mul_le_mul_right _ hq'
      rw [Nat.succ_mul] at this; omega
    refine xm_placeCell (L := 0) (by decide) hc hD2 (hR2 (hz q hq')) (zW q hq') w32 eM hqM (by omega) ?_
    refine nm_r (nI_1 q) ?_
    refine ih (q + 1) (by omega) n _ _ _ _ _ _ _ _ _ _ _ (xv_I_s hI2 (fun j hj => ⟨rfl, fun _ _ => rfl, fun i hi => ra_blk_out (by have := hj.2.2.2; omega)⟩)) hD2 (hS8.1.trans hr)
      (fun i hi => (hS8.2.1 i (by omega)).trans (hdm i hi)) ?_
    refine ra_At_s (am := am) (b := (8 + 0) * 32) (M := M) (q := q) (val := fun q i => ra_pl fv (w 1) (w 2) (ra_BA c fv v (ra_cx x y fx fy q) (ra_cy x y fx fy q)) i) ha (fun i hi => ?_) (fun i hi => ?_)
    · rw [ra_blk_out (by omega)]
      exact hS8.2.2 i (by omega)
    · rw [← Nat.add_assoc, ra_blk_in hi]
theorem xl1_0 {post : Int32 → SX → Prop} {c v fx fy sx sy P : Nat} {x y : ra_A} {fv oa ol ov : Int32} {rk0 dm0 am0 xs0 ys0 xf0 yf0 fs0 fr0 wr0 wd0 : Nat → Int32}
    (hv : v ≤ 12) (h8 : 8 ≤ c) (hc : c ≤ 32) (wx : ra_W c x) (wy : ra_W c y) (hfx : fx ≤ x.1) (hfy : fy ≤ y.1) (hfit : 0 = 1 → x.1 - fx ≤ ra_dL v ∧ y.1 - fy ≤ ra_dR v)
    (hd : ra_dis x y (if fx < fy then fx else fy) = false) (eP : P = ra_pos x y fx fy) (pP : 0 < P)
    (hsx : sx < 12) (hsy : sy < 12) (qx : xv_Q 0 sx) (qy : xv_Q 0 sy) (hx0 : ra_H rk0 dm0 am0 sx x) (hy0 : ra_H rk0 dm0 am0 sy y)
    (hp : ∀ rk' dm' am' xs' ys' xf' yf' fs' fr' wr' wd', (∀ N, N < 0 → xv_E N xs0 ys0 xf0 yf0 fs0 fr0 wr0 wd0 xs' ys' xf' yf' fs' fr' wr' wd') → (∀ j, xv_Q 0 j → ra_S rk0 dm0 am0 rk' dm' am' j) →
      (ra_AE c fv (ra_BE c fv v) (ra_BA c fv v) x y fx fy = 0 → ra_H rk' dm' am' (8 + 0) (ra_AA c fv (ra_BE c fv v) (ra_BA c fv v) x y fx fy)) → post (ra_AE c fv (ra_BE c fv v) (ra_BA c fv v) x y fx fy) (nI c, fv, oa, ol, ov, rk', dm', am', xs', ys', xf', yf', fs', fr', wr', wd'))
 :
    ∀ k q, q + k = P → ∀ n rk dm am xs ys xf yf fs fr wr wd, xv_I 0 sx sy fx fy rk0 dm0 am0 xs0 ys0 xf0 yf0 fs0 fr0 wr0 wd0 rk dm am xs ys xf yf fs fr wr wd → xv_D wr wd 0 (ra_K (ra_BA c fv v) x y fx fy q) (ra_w (ra_BA c fv v) x y fx fy q) → (∀ i, i < q → ra_BE c fv v (ra_cx x y fx fy i) (ra_cy x y fx fy i) = 0) →
    wX_applyOuter_75 post (nI v) (nI P) (n + k + 1) (nI q) (nI c) fv oa ol ov rk dm am xs ys xf yf fs fr wr wd := by
  have hokk := ra_B_ok (fl := fv) h8 hc hv
  have hP := ra_pos_le hc wx wy hfx hfy
  have zW : ∀ q, q < P → ra_BE c fv v (ra_cx x y fx fy q) (ra_cy x y fx fy q) = 0 → ra_W c (ra_BA c fv v (ra_cx x y fx fy q) (ra_cy x y fx fy q)) := fun q hq =>
    hokk _ _ (ra_cx_W wx hfx hd (by omega)) (ra_cy_W wy hfy hd (by omega))
  intro k
  induction k with
  | zero =>
    intro q hq n rk dm am xs ys xf yf fs fr wr wd hI hD hz
    have hq' : q = P := by omega
    subst hq'
    have hx := ra_H_S hx0 wx hc (hI.2.2 sx qx)
    have hy := ra_H_S hy0 wy hc (hI.2.2 sy qy)
    have k3 : ra_K (ra_BA c fv v) x y fx fy q ≤ 3 := ra_max_le _ fun i hi => (zW i hi (hz i hi)).1
    have w32 : ∀ j, j < 3 → ra_w (ra_BA c fv v) x y fx fy q j ≤ c := fun j hj => ra_max_le _ fun i hi => ra_lift_le (zW i hi (hz i hi)) (by omega) hj
    have hF := ra_F_le wx wy hfx hfy
    have e1 := ra_AE_l (c := c) (fl := fv) (E := ra_BE c fv v) (R := ra_BA c fv v) hd (by omega) (by rw [← eP]; exact hz)
    rw [← eP] at e1
    rw [wX_applyOuter_75]
    refine br_t (nI_le (Nat.le_refl _) (by omega)) ?_
    refine xm_shapeResult (L := 0) (by decide) h8 hc hI.1 hD k3 w32 hx hy wx wy hfx hfy hsx hsy qx qy ?_ ?_
    · intro h3
      rw [if_pos (.inl h3)] at e1
      have := hp rk dm am xs ys xf yf fs fr wr wd hI.2.1 hI.2.2 (fun z => absurd (e1.symm.trans z) (by decide))
      rw [e1] at this
      exact br_f (by decide) this
    · intro h3 rk2 dm2 hr hdm hS
      rw [ra_lim_g hF w32 k3 (ra_w_1 (by omega))]
      have hI2 := xv_I_s (rk2 := rk2) (dm2 := dm2) (am2 := am) hI (fun j hj => hS j hj.2.2.2)
      by_cases hl : c < q * (ra_w (ra_BA c fv v) x y fx fy q 0 * ra_w (ra_BA c fv v) x y fx fy q 1 * ra_w (ra_BA c fv v) x y fx fy q 2)
      · rw [if_pos (.inr hl)] at e1
        have := hp _ _ _ _ _ _ _ _ _ _ _ hI2.2.1 hI2.2.2 (fun z => absurd (e1.symm.trans z) (by decide))
        rw [e1] at this
        rw [if_pos (decide_eq_true (by first | exact hl | (rw [eP] at hl ⊢; exact hl)))]
        exact br_f (by decide) this
      · rw [if_neg (fun z => hl (by have z' := of_decide_eq_true z; first | exact z' | (rw [eP]; rw [eP] at z'; exact z')))]
        refine br_t rfl ⟨_, xl2_0 hv h8 hc wx wy hfx hfy hfit hd eP pP hsx hsy qx qy hx0 hy0 hp hz rfl rfl rfl h3 (Nat.le_of_not_lt hl) q 0 (Nat.zero_add q) 0 _ _ _ _ _ _ _ _ _ _ _ hI2 hD hr hdm ?_⟩
        intro i hi
        rw [Nat.zero_mul] at hi
        omega
  | succ k ih =>
    intro q hq n rk dm am xs ys xf yf fs fr wr wd hI hD hz
    have hq' : q < P := by omega
    have hx := ra_H_S hx0 wx hc (hI.2.2 sx qx)
    have hy := ra_H_S hy0 wy hc (hI.2.2 sy qy)
    rw [wX_applyOuter_75]
    refine br_f (nI_ge hq' (by omega)) ?_
    refine xm_fetchCells (L := 0) (by decide) hc hI.1 hx hy wx wy hfx hfy hd (by omega) hsx hsy qx qy ?_
    intro rk1 dm1 am1 h4 h6 hS1
    refine xb_0 hv h8 hc (ra_cx_W wx hfx hd (by omega)) (ra_cy_W wy hfy hd (by omega)) hfit h4 h6 ?_
    intro rk2 dm2 am2 xs2 ys2 xf2 yf2 fs2 fr2 wr2 wd2 hE2 hS2 hR2
    have hI2 : xv_I 0 sx sy fx fy rk0 dm0 am0 xs0 ys0 xf0 yf0 fs0 fr0 wr0 wd0 rk2 dm2 am2 xs2 ys2 xf2 yf2 fs2 fr2 wr2 wd2 := xv_I_g (xv_I_s hI (fun j hj => hS1 j hj.2.1 hj.2.2.1)) hE2 (fun j hj => hS2 j hj.1)
    have hD2 := xv_D_E (hE2 0 (Nat.le_refl _)) hD
    by_cases he : ra_BE c fv v (ra_cx x y fx fy q) (ra_cy x y fx fy q) = 0
    · refine br_t he ?_
      have zw := zW q hq' he
      have k3 : ra_K (ra_BA c fv v) x y fx fy q ≤ 3 := ra_max_le _ fun i hi => (zW i (by omega) (hz i hi)).1
      have w32 : ∀ j, j < 3 → ra_w (ra_BA c fv v) x y fx fy q j ≤ c := fun j hj => ra_max_le _ fun i hi => ra_lift_le (zW i (by omega) (hz i hi)) (by omega) hj
      refine xm_widen (L := 0) (by decide) hc hD2 k3 w32 (hR2 he) zw (by omega) ?_
      intro wr3 wd3 hD3 hE3
      refine nm_r (nI_1 q) ?_
      refine ih (q + 1) (by omega) n _ _ _ _ _ _ _ _ _ _ _ (xv_I_w hI2 hE3) hD3 (fun i hi => ?_)
      by_cases z : i = q
      · subst z; exact he
      · exact hz i (by omega)
    · refine br_f he ?_
      have e1 := ra_AE_e (c := c) (fl := fv) (E := ra_BE c fv v) (R := ra_BA c fv v) hd (q := q) (by omega) hz he
      have := hp _ _ _ _ _ _ _ _ _ _ _ hI2.2.1 hI2.2.2 (fun z => absurd (e1.symm.trans z) he)
      rw [e1] at this
      exact this

theorem xj_0 {post : Int32 → SX → Prop} {c v fx fy sx sy K : Nat} {w : Nat → Nat} {x y : ra_A} {fv oa ol ov : Int32} {rk0 dm0 am0 xs0 ys0 xf0 yf0 fs0 fr0 wr0 wd0 rk dm am xs ys xf yf fs fr wr wd : Nat → Int32}
    (h8 : 8 ≤ c) (hc : c ≤ 32) (wx : ra_W c x) (wy : ra_W c y) (hfx : fx ≤ x.1) (hfy : fy ≤ y.1)
    (hd : ra_dis x y (if fx < fy then fx else fy) = false) (p0 : ra_pos x y fx fy = 0)
    (hsx : sx < 12) (hsy : sy < 12) (qx : xv_Q 0 sx) (qy : xv_Q 0 sy) (hx0 : ra_H rk0 dm0 am0 sx x) (hy0 : ra_H rk0 dm0 am0 sy y)
    (hp : ∀ rk' dm' am' xs' ys' xf' yf' fs' fr' wr' wd', (∀ N, N < 0 → xv_E N xs0 ys0 xf0 yf0 fs0 fr0 wr0 wd0 xs' ys' xf' yf' fs' fr' wr' wd') → (∀ j, xv_Q 0 j → ra_S rk0 dm0 am0 rk' dm' am' j) →
      (ra_AE c fv (ra_BE c fv v) (ra_BA c fv v) x y fx fy = 0 → ra_H rk' dm' am' (8 + 0) (ra_AA c fv (ra_BE c fv v) (ra_BA c fv v) x y fx fy)) → post (ra_AE c fv (ra_BE c fv v) (ra_BA c fv v) x y fx fy) (nI c, fv, oa, ol, ov, rk', dm', am', xs', ys', xf', yf', fs', fr', wr', wd'))
    (hI : xv_I 0 sx sy fx fy rk0 dm0 am0 xs0 ys0 xf0 yf0 fs0 fr0 wr0 wd0 rk dm am xs ys xf yf fs fr wr wd) (hD : xv_D wr wd 0 K w) (eK : K = (ra_S0 c fv (ra_BE c fv v) (ra_BA c fv v) x y fx fy).1) (k3 : K ≤ 3) (w32 : ∀ j, j < 3 → w j ≤ c)
    (ew : ∀ i, i < K → w (i + (3 - K)) = (ra_S0 c fv (ra_BE c fv v) (ra_BA c fv v) x y fx fy).2.1 i) : wX_applyOuter_66 post (nI c) fv oa ol ov rk dm am xs ys xf yf fs fr wr wd := by
  have hx := ra_H_S hx0 wx hc (hI.2.2 sx qx)
  have hy := ra_H_S hy0 wy hc (hI.2.2 sy qy)
  have hF := ra_F_le wx wy hfx hfy
  have e1 := ra_AE_0 (c := c) (fl := fv) (E := ra_BE c fv v) (R := ra_BA c fv v) hd p0
  rw [← eK] at e1
  unfold wX_applyOuter_66
  refine xm_shapeResult (L := 0) (by decide) h8 hc hI.1 hD k3 w32 hx hy wx wy hfx hfy hsx hsy qx qy ?_ ?_
  · intro h3
    rw [if_pos h3] at e1
    have := hp rk dm am xs ys xf yf fs fr wr wd hI.2.1 hI.2.2 (fun z => absurd (e1.symm.trans z) (by decide))
    rw [e1] at this
    exact this
  · intro h3 rk2 dm2 hr hdm hS
    have hI2 := xv_I_s (rk2 := rk2) (dm2 := dm2) (am2 := am) hI (fun j hj => hS j hj.2.2.2)
    rw [ra_lim_0 (G := fun i => w (i + (3 - K))) hF (fun i hi => w32 _ (by omega)) p0, if_neg (by decide)]
    rw [if_neg (by omega)] at e1
    have := hp _ _ _ _ _ _ _ _ _ _ _ hI2.2.1 hI2.2.2 (fun _ => ra_H_A0 (G := fun i => w (i + (3 - K))) p0 eK ew hr hdm)
    rw [e1] at this
    exact this

theorem xm_applyOuter {post : Int32 → SX → Prop} {c v sx sy : Nat} {x y : ra_A} {l r : Int32} {fv oa ol ov : Int32} {rk dm am xs ys xf yf fs fr wr wd : Nat → Int32} (hv : v ≤ 12) (h8 : 8 ≤ c) (hc : c ≤ 32) (wx : ra_W c x) (wy : ra_W c y)
    (hsx : sx < 12) (hsy : sy < 12) (qx : xv_Q 0 sx) (qy : xv_Q 0 sy) (hx0 : ra_H rk dm am sx x) (hy0 : ra_H rk dm am sy y)
    (hp : ∀ rk' dm' am' xs' ys' xf' yf' fs' fr' wr' wd', (∀ N, N < 0 → xv_E N xs ys xf yf fs fr wr wd xs' ys' xf' yf' fs' fr' wr' wd') → (∀ j, xv_Q 0 j → ra_S rk dm am rk' dm' am' j) →
      (ra_OE c fv v x y l r = 0 → ra_H rk' dm' am' (8 + 0) (ra_OA c fv v x y l r)) → post (ra_OE c fv v x y l r) (nI c, fv, oa, ol, ov, rk', dm', am', xs', ys', xf', yf', fs', fr', wr', wd')) : wpX_applyOuter post (nI c, fv, oa, ol, ov, rk, dm, am, xs, ys, xf, yf, fs, fr, wr, wd) (nI v) (nI sx) (nI sy) l r := by
  unfold ra_OE ra_OA at hp
  have hfx : x.1 - ra_eff l x.1 ≤ x.1 := Nat.sub_le _ _
  have hfy : y.1 - ra_eff r y.1 ≤ y.1 := Nat.sub_le _ _
  generalize efx : x.1 - ra_eff l x.1 = fx at hp hfx
  generalize efy : y.1 - ra_eff r y.1 = fy at hp hfy
  have hfit : 0 = 1 → x.1 - fx ≤ ra_dL v ∧ y.1 - fy ≤ ra_dR v := fun z => absurd z (by decide)
  unfold wpX_applyOuter
  refine xm_split (L := 0) (by decide) hc hsx hsy wx wy hx0 hy0 efx.symm efy.symm ?_ ?_
  · intro hd
    have e1 := ra_AE_d (c := c) (fl := fv) (E := ra_BE c fv v) (R := ra_BA c fv v) hd
    have := hp rk dm am xs ys xf yf fs fr wr wd (fun _ _ => xv_E_r) (fun _ _ => ra_S_r) (fun z => absurd (e1.symm.trans z) (by decide))
    rw [e1] at this
    exact br_f (by decide) this
  · intro hd xs1 ys1 xf1 yf1 fs1 fr1 wr1 wd1 hV hD hE
    refine br_t rfl ?_
    have hI : xv_I 0 sx sy fx fy rk dm am xs ys xf yf fs fr wr wd rk dm am xs1 ys1 xf1 yf1 fs1 fr1 wr1 wd1 := ⟨hV, fun N hN => hE N (Nat.ne_of_lt hN), fun _ _ => ra_S_r⟩
    have hF := xv_frame hx0 hy0 hfx hfy
    have fr3 := ra_fr_3 wx wy hfx hfy
    have hP := ra_pos_le hc wx wy hfx hfy
    have hokk := ra_B_ok (fl := fv) h8 hc hv
    have hsl : (if fy < fx then sx else sy) < 12 := by
      split
      · exact hsx
      · exact hsy
    rw [hV.2.2.2.2.1, hV.2.2.2.2.2]
    refine xm_product (f := 0) (d := ra_F x y fx fy) hsl (by decide) fr3 (fun i _ hi => hF i hi) ?_
    by_cases p0 : ra_pos x y fx fy = 0
    · refine br_t (by rw [Nat.sub_zero, show ra_prod (ra_F x y fx fy) 0 (ra_fr fx fy) = 0 from p0]; rfl) ?_
      refine xm_fillCells (L := 0) (by decide) hc hV hx0 hy0 wx wy hfx hfy hsx hsy qx qy ?_
      intro rk2 dm2 am2 hfc hS2
      have hI2 := xv_I_s hI (fun j hj => hS2 j hj.2.1 hj.2.2.1)
      by_cases hb : ra_size x fx ≤ c ∧ ra_size y fy ≤ c
      · rw [if_pos hb]
        refine br_f (by decide) ?_
        refine xb_0 hv h8 hc (ra_fc_W wx hb.1) (ra_fc_W wy hb.2) hfit (hfc hb).1 (hfc hb).2 ?_
        intro rk3 dm3 am3 xs3 ys3 xf3 yf3 fs3 fr3 wr3 wd3 hE3 hS3 hR3
        have hI3 := xv_I_g hI2 hE3 (fun j hj => hS3 j hj.1)
        have hD3 := xv_D_E (hE3 0 (Nat.le_refl _)) hD
        by_cases he : ra_BE c fv v (ra_fc fv x fx) (ra_fc fv y fy) = 0
        · refine br_t he ?_
          have es : ra_S0 c fv (ra_BE c fv v) (ra_BA c fv v) x y fx fy = ra_BA c fv v (ra_fc fv x fx) (ra_fc fv y fy) := by
            unfold ra_S0; rw [if_neg (by omega), if_pos he]
          have wz := hokk _ _ (ra_fc_W wx hb.1) (ra_fc_W wy hb.2) he
          refine xm_widen (L := 0) (by decide) hc hD3 (by decide) (fun j _ => Nat.zero_le _) (hR3 he) wz (by omega) ?_
          intro wr4 wd4 hD4 hE4
          refine xj_0 (v := v) h8 hc wx wy hfx hfy hd p0 hsx hsy qx qy hx0 hy0 hp (xv_I_w hI3 hE4) hD4 ?_ ?_ (fun j hj => ?_) (fun i hi => ?_)
          · rw [es]; split <;> omega
          · have := wz.1; split <;> omega
          · have := ra_lift_le wz (by omega) hj
            show (if 0 < ra_lift _ j then ra_lift _ j else 0) ≤ c
            split <;> omega
          · have w3 := wz.1
            have eK : (if 0 < (ra_BA c fv v (ra_fc fv x fx) (ra_fc fv y fy)).1 then (ra_BA c fv v (ra_fc fv x fx) (ra_fc fv y fy)).1 else 0) = (ra_BA c fv v (ra_fc fv x fx) (ra_fc fv y fy)).1 := by split <;> omega
            rw [eK] at hi ⊢
            rw [es]
            show (if 0 < ra_lift _ _ then ra_lift _ _ else 0) = _
            rw [ra_lift_hi w3 hi]
            split <;> omega
        · refine br_f he ?_
          have es : ra_S0 c fv (ra_BE c fv v) (ra_BA c fv v) x y fx fy = ra_sc 0 := by
            unfold ra_S0; rw [if_neg (by omega), if_neg he]
          exact xj_0 (v := v) h8 hc wx wy hfx hfy hd p0 hsx hsy qx qy hx0 hy0 hp hI3 hD3 (by rw [es]; rfl) (by decide) (fun j hj => Nat.zero_le _) (fun i hi => absurd hi (Nat.not_lt_zero i))
      · rw [if_neg hb]
        refine br_t rfl ?_
        have es : ra_S0 c fv (ra_BE c fv v) (ra_BA c fv v) x y fx fy = ra_sc 0 := by
          unfold ra_S0; rw [if_pos (by omega)]
        exact xj_0 (v := v) h8 hc wx wy hfx hfy hd p0 hsx hsy qx qy hx0 hy0 hp hI2 hD (by rw [es]; rfl) (by decide) (fun j hj => Nat.zero_le _) (fun i hi => absurd hi (Nat.not_lt_zero i))
    · have pp : 0 < ra_pos x y fx fy := Nat.pos_of_ne_zero p0
      refine br_f (show ¬ nI (ra_pos x y fx fy) = 0 from nI_ne0 pp (by omega)) ⟨_, xl1_0 hv h8 hc wx wy hfx hfy hfit hd rfl pp hsx hsy qx qy hx0 hy0 hp (ra_pos x y fx fy) 0 (Nat.zero_add _) 0 _ _ _ _ _ _ _ _ _ _ _ hI hD (fun i hi => absurd hi (Nat.not_lt_zero i))⟩
end
section
/-! the reference: what only reads, and what writes one slot -/
section
variable {c : Nat} {fv oa ol ov : Int32} {rk dm am lx ly lm lfx lfy lfr lp lk lc lf lM : Nat → Int32}
theorem ym_cnt {post : Int32 → Prop} {s r : Nat} {d : Nat → Nat} (hs : s < 11) (hr : r ≤ 3) (er : rk s = nI r) (hd : ∀ i, i < r → dm (s * 3 + i) = nI (d i)) (hp : post (nI (ra_prod d 0 r))) : wpY_cnt post (nI c, fv, oa, ol, ov, rk, dm, am, lx, ly, lm, lfx, lfy, lfr, lp, lk, lc, lf, lM) (nI s) := by
  unfold wpY_cnt
  refine ra_loop (fun n i => wY_cnt_4 post (nI s) (nI c) fv oa ol ov rk dm am lx ly lm lfx lfy lfr lp lk lc lf lM n (nI (ra_prod d 0 i)) (nI i)) r (fun n => ?_) (fun n i hi ih => ?_) 0 (Nat.zero_le _)
  · simp (disch := omega) only [wY_cnt_4, nI_clamp, ra_inI, true_and, er]
    exact br_t (nI_le (Nat.le_refl _) (by omega)) hp
  · simp (disch := omega) only [wY_cnt_4, ra_m3, nI_add, nI_clamp, ra_inI, true_and, forall_eq, nI_1, er, hd i hi, pk_mul]
    refine br_f (nI_ge hi (by omega)) (br_f (by rw [ra_le3 (by omega)]; omega) ?_)
    rw [ra_prod, Nat.zero_add] at ih
    exact ih
theorem ym_drR {post : Int32 → Prop} {v : Nat} (hv : v ≤ 12) (hp : post (nI (ra_dR v))) : wpY_dr post (nI c, fv, oa, ol, ov, rk, dm, am, lx, ly, lm, lfx, lfy, lfr, lp, lk, lc, lf, lM) (nI v) 1 := by
  unfold wpY_dr
  match v, hv with
  | 0, _ => exact br_f (by decide) hp
  | 1, _ => exact br_f (by decide) hp
  | 2, _ => exact br_t (by decide) (br_f (by decide) hp)
  | 3, _ => exact br_t (by decide) (br_f (by decide) hp)
  | 4, _ => exact br_t (by decide) (br_f (by decide) hp)
  | 5, _ => exact br_t (by decide) (br_f (by decide) hp)
  | 6, _ => exact br_t (by decide) (br_t (by decide) (br_f (by decide) hp))
  | 7, _ => exact br_t (by decide) (br_t (by decide) (br_f (by decide) hp))
  | 8, _ => exact br_t (by decide) (br_t (by decide) (br_f (by decide) hp))
  | 9, _ => exact br_t (by decide) (br_t (by decide) (br_f (by decide) hp))
  | 10, _ => exact br_t (by decide) (br_t (by decide) (br_t (by decide) (br_f (by decide) hp)))
  | 11, _ => exact br_t (by decide) (br_t (by decide) (br_t (by decide) (br_f (by decide) hp)))
  | 12, _ => exact br_t (by decide) (br_t (by decide) (br_t (by decide) (br_f (by decide) hp)))
theorem ym_drL {post : Int32 → Prop} {v : Nat} (hv : v ≤ 12) (hp : ∀ z, (6 ≤ v → z = nI (ra_dL v)) → post z) : wpY_dr post (nI c, fv, oa, ol, ov, rk, dm, am, lx, ly, lm, lfx, lfy, lfr, lp, lk, lc, lf, lM) (nI v) 0 := by
  unfold wpY_dr
  match v, hv with
  | 0, _ => exact br_f (by decide) (hp _ (fun z => absurd z (by decide)))
  | 1, _ => exact br_f (by decide) (hp _ (fun z => absurd z (by decide)))
  | 2, _ => exact br_t (by decide) (br_f (by decide) (hp _ (fun z => absurd z (by decide))))
  | 3, _ => exact br_t (by decide) (br_f (by decide) (hp _ (fun z => absurd z (by decide))))
  | 4, _ => exact br_t (by decide) (br_f (by decide) (hp _ (fun z => absurd z (by decide))))
  | 5, _ => exact br_t (by decide) (br_f (by decide) (hp _ (fun z => absurd z (by decide))))
  | 6, _ => exact br_t (by decide) (br_t (by decide) (br_f (by decide) (hp _ (fun _ => rfl))))
  | 7, _ => exact br_t (by decide) (br_t (by decide) (br_f (by decide) (hp _ (fun _ => rfl))))
  | 8, _ => exact br_t (by decide) (br_t (by decide) (br_f (by decide) (hp _ (fun _ => rfl))))
  | 9, _ => exact br_t (by decide) (br_t (by decide) (br_f (by decide) (hp _ (fun _ => rfl))))
  | 10, _ => exact br_t (by decide) (br_t (by decide) (br_t (by decide) (br_t rfl (br_t rfl (hp _ (fun _ => rfl))))))
  | 11, _ => exact br_t (by decide) (br_t (by decide) (br_t (by decide) (br_t rfl (br_f (by decide) (hp _ (fun _ => rfl))))))
  | 12, _ => exact br_t (by decide) (br_t (by decide) (br_t (by decide) (br_t rfl (br_f (by decide) (hp _ (fun _ => rfl))))))
theorem ra_eff_q {v : Int32} {a : Nat} (ha : a ≤ 3) (h : v < 0) (g : 0 ≤ nI a + v) : nI a + v = nI (ra_eff v a) := by
  have e := ra_eff_neg ha h
  rw [Int32.le_iff_toInt_le, ra_t0, e] at g
  unfold ra_eff
  rw [if_pos h]
  apply Int32.toInt_inj.mp
  have h' := h
  rw [Int32.lt_iff_toInt_lt, ra_t0] at h'
  rw [e, nI_toInt (by omega)]
  omega
theorem ym_eff {post : Int32 → Prop} {a : Nat} {v : Int32} (ha : a ≤ 3) (hp : post (nI (ra_eff v a))) : wpY_eff post (nI c, fv, oa, ol, ov, rk, dm, am, lx, ly, lm, lfx, lfy, lfr, lp, lk, lc, lf, lM) v (nI a) := by
  unfold wpY_eff
  by_cases h : v < 0
  · refine br_t h ?_
    by_cases g : 0 ≤ nI a + v
    · rw [← ra_eff_q ha h g] at hp
      exact br_t g hp
    · rw [ra_eff_z ha h (fun z => g (Int32.le_of_lt z))] at hp
      exact br_f g hp
  · refine br_f h ?_
    by_cases g : nI a ≤ v
    · rw [ra_eff_h h (Int32.not_lt.mpr g)] at hp
      exact br_t g hp
    · rw [← ra_eff_l h (Int32.not_le.mp g)] at hp
      exact br_f g hp
theorem ym_lifted {post : Int32 → Prop} {s K i : Nat} {z : ra_A} (hs : s < 11) (hK : K ≤ 3) (hz : z.1 ≤ K) (h : ra_H rk dm am s z) (hi : i < K) (hp : post (nI (ra_lift z (i + (3 - K))))) : wpY_lifted post (nI c, fv, oa, ol, ov, rk, dm, am, lx, ly, lm, lfx, lfy, lfr, lp, lk, lc, lf, lM) (nI s) (nI K) (nI i) := by
  rw [ra_lift_K hz hK hi] at hp
  unfold wpY_lifted
  dsimp only
  rw [nI_clamp (by omega), h.1]
  refine ⟨vp_in_nI hs (by decide), nm_r (pk_sub hz) ?_⟩
  rw [ra_m3, nI_add]
  by_cases g : i < K - z.1
  · rw [if_pos g] at hp
    exact br_f (nI_ge g (by omega)) hp
  · rw [if_neg g] at hp
    refine br_t (nI_le (by omega) (by omega)) ?_
    rw [pk_sub (by omega), show s * 3 + i - (K - z.1) = s * 3 + (i - (K - z.1)) by omega, nI_clamp (by omega), h.2.1 _ (by omega)]
    exact ⟨vp_in_nI (by omega) (by decide), hp⟩
theorem ym_span {post : Int32 → Prop} {L g r : Nat} {F : Nat → Nat} (hL : L < 2) (hfr : lfr L = nI r) (h3 : r ≤ 3) (hg : g ≤ 3) (hF : ∀ i, i < r → lf (L * 3 + i) = nI (F i))
    (h0 : 0 < ra_prod F g (r - g)) (hb : ra_prod F g (r - g) < 2 ^ 31) (hp : post (nI (ra_prod F g (r - g)))) : wpY_span post (nI c, fv, oa, ol, ov, rk, dm, am, lx, ly, lm, lfx, lfy, lfr, lp, lk, lc, lf, lM) (nI L) (nI g) := by
  unfold wpY_span
  refine ra_loop (fun n i => wY_span_5 post (nI L) (nI c) fv oa ol ov rk dm am lx ly lm lfx lfy lfr lp lk lc lf lM n (nI (ra_prod F g i)) (nI (g + i))) (r - g) (fun n => ?_) (fun n i hi ih => ?_) 0 (Nat.zero_le _)
  · simp (disch := omega) only [wY_span_5, wY_span_42, nI_clamp, ra_inI, true_and, hfr]
    exact br_t (nI_le (by omega) (by omega)) (br_t (nI_le (a := 1) h0 hb) hp)
  · simp (disch := omega) only [wY_span_5, ra_m3, nI_add, nI_clamp, ra_inI, true_and, forall_eq, nI_1, hfr, hF (g + i) (by omega), pk_mul]
    refine br_f (nI_ge (by omega) (by omega)) (br_f (by rw [ra_le3 (by omega)]; omega) ?_)
    exact ih
theorem ym_cellOut {post : SY → Prop} {s f p t : Nat} {a : ra_A} (hc : c ≤ 32) (w : ra_W c a) (h : ra_H rk dm am s a) (hs : s < 11) (ht : t < 11) (hst : s ≠ t) (hf : f ≤ a.1) (hpf : p < ra_prod a.2.1 0 f)
    (hp : ∀ rk' dm' am', ra_H rk' dm' am' t (ra_cell a f p) → (∀ j, j ≠ t → ra_S rk dm am rk' dm' am' j) → post (nI c, fv, oa, ol, ov, rk', dm', am', lx, ly, lm, lfx, lfy, lfr, lp, lk, lc, lf, lM)) : wpY_cellOut post (nI c, fv, oa, ol, ov, rk, dm, am, lx, ly, lm, lfx, lfy, lfr, lp, lk, lc, lf, lM) (nI s) (nI f) (nI p) (nI t) := by
  have h3 := w.1
  have wz := (ra_cell_W (p := p) w hf hpf).2.2
  rw [ra_cell_cnt] at wz
  have hin : ∀ i, i < ra_size a f → p * ra_size a f + i < 32 := fun i hi => Nat.lt_of_lt_of_le (ra_cell_in hf hpf hi) (Nat.le_trans w.2.2 hc)
  have fin : post (nI c, fv, oa, ol, ov, upd rk t (nI (a.1 - f)), ra_blk dm (t * 3) (a.1 - f) (fun i => dm (s * 3 + f + i)), ra_blk am (t * 32) (ra_size a f) (fun i => am (s * 32 + (p * ra_size a f + i))), lx, ly, lm, lfx, lfy, lfr, lp, lk, lc, lf, lM) := by
    refine hp _ _ _ ⟨pk_us, fun i hi => ?_, fun i hi => ?_⟩ (fun j hj => ra_S_blk (by omega) (by omega) hj)
    · have hi' : i < a.1 - f := hi
      rw [ra_blk_in hi', Nat.add_assoc, h.2.1 (f + i) (by omega)]; rfl
    · rw [ra_cell_cnt] at hi
      rw [ra_blk_in hi, h.2.2 _ (ra_cell_in hf hpf hi)]; rfl
  unfold wpY_cellOut
  dsimp only
  rw [nI_clamp (by omega), h.1]
  refine ⟨vp_in_nI hs (by decide), nm_r (pk_sub hf) ⟨vp_in_nI ht (by decide), nm_e ?_⟩⟩
  rw [nI_clamp (by omega)]
  refine ra_loop0 (fun n i => wY_cellOut_25 post (nI s) (nI f) (nI p) (nI t) (nI (a.1 - f)) (nI c) fv oa ol ov n (nI (ra_prod a.2.1 f i)) (nI i) (upd rk t (nI (a.1 - f))) (ra_blk dm (t * 3) i (fun i => dm (s * 3 + f + i))) am lx ly lm lfx lfy lfr lp lk lc lf lM) (a.1 - f) (fun n => ?_) (fun n i hi ih => ?_) (fun n h => ?_)
  · simp only [wY_cellOut_25]
    refine br_t (nI_le (Nat.le_refl _) (by omega)) ?_
    refine ra_loop0 (fun n i => wY_cellOut_90 post (nI s) (nI p) (nI t) (nI (ra_size a f)) (nI c) fv oa ol ov n (nI i) (upd rk t (nI (a.1 - f))) (ra_blk dm (t * 3) (a.1 - f) (fun i => dm (s * 3 + f + i))) (ra_blk am (t * 32) i (fun i => am (s * 32 + (p * ra_size a f + i)))) lx ly lm lfx lfy lfr lp lk lc lf lM) (ra_size a f) (fun n => ?_) (fun n i hi ih => ?_) (fun n h => ?_)
    · simp only [wY_cellOut_90]
      exact br_t (nI_le (Nat.le_refl _) (by omega)) fin
    · have hi2 := hin i hi
      simp (disch := omega) only [wY_cellOut_90, ra_m32, pk_mul, nI_add, nI_clamp, ra_inI, true_and, forall_eq, nI_1]
      refine br_f (nI_ge hi (by omega)) (br_f (by rw [ra_le32 (by omega)]; omega) (br_f (nI_pos (by omega)) (br_f (by rw [ra_le32 (by omega)]; omega) ?_)))
      rw [ra_blk_out (by omega), ra_blk_s rfl]
      exact ih
    · rw [ra_blk_0] at h
      exact h
  · simp (disch := omega) only [wY_cellOut_25, ra_m3, nI_add, nI_clamp, ra_inI, true_and, forall_eq, nI_1]
    refine br_f (nI_ge hi (by omega)) (br_f (by rw [ra_le3 (by omega)]; omega) ?_)
    rw [ra_blk_out (by omega), ra_blk_s rfl, ra_blk_out (by omega), Nat.add_assoc (s * 3), h.2.1 (f + i) (by omega), pk_mul]
    exact ih
  · rw [ra_blk_0] at h
    exact h
theorem ym_fillCell {post : Int32 → SY → Prop} {s f t : Nat} {a : ra_A} (hc : c ≤ 32) (w : ra_W c a) (h : ra_H rk dm am s a) (hs : s < 11) (ht : t < 11) (hst : s ≠ t) (hf : f ≤ a.1)
    (hp : ∀ rk' dm' am', (ra_size a f ≤ c → ra_H rk' dm' am' t (ra_fc fv a f)) → (∀ j, j ≠ t → ra_S rk dm am rk' dm' am' j) → post (if ra_size a f ≤ c then 1 else 0) (nI c, fv, oa, ol, ov, rk', dm', am', lx, ly, lm, lfx, lfy, lfr, lp, lk, lc, lf, lM)) :
    wpY_fillCell post (nI c, fv, oa, ol, ov, rk, dm, am, lx, ly, lm, lfx, lfy, lfr, lp, lk, lc, lf, lM) (nI s) (nI f) (nI t) := by
  have h3 := w.1
  have hz := ra_size_le (f := f) hc w
  unfold wpY_fillCell
  dsimp only
  rw [nI_clamp (by omega), h.1]
  refine ⟨vp_in_nI hs (by decide), nm_r (pk_sub hf) ?_⟩
  refine ra_loop0 (fun n i => wY_fillCell_16 post (nI s) (nI f) (nI t) (nI (a.1 - f)) (nI c) fv oa ol ov n (nI (ra_prod a.2.1 f i)) (nI i) rk (ra_blk dm (t * 3) i (fun i => dm (s * 3 + f + i))) am lx ly lm lfx lfy lfr lp lk lc lf lM) (a.1 - f) (fun n => ?_) (fun n i hi ih => ?_) (fun n h => ?_)
  · simp only [wY_fillCell_16]
    refine br_t (nI_le (Nat.le_refl _) (by omega)) ?_
    unfold wY_fillCell_77
    by_cases g : ra_size a f ≤ c
    · refine br_t (show nI (ra_size a f) ≤ nI c from nI_le g (by omega)) ⟨vp_in_nI ht (by decide), nm_e ?_⟩
      rw [nI_clamp (by omega)]
      have fin := hp (upd rk t (nI (a.1 - f))) (ra_blk dm (t * 3) (a.1 - f) (fun i => dm (s * 3 + f + i))) (ra_blk am (t * 32) (ra_size a f) (fun _ => fv)) (fun _ => ⟨pk_us, fun i hi => by
        have hi' : i < a.1 - f := hi
        rw [ra_blk_in hi', Nat.add_assoc, h.2.1 (f + i) (by omega)]; rfl, fun i hi => by
        rw [ra_fc_cnt] at hi
        rw [ra_blk_in hi]; rfl⟩) (fun j hj => ra_S_blk (by omega) (by omega) hj)
      rw [if_pos g] at fin
      show ∃ n, wY_fillCell_99 post (nI t) (nI (ra_size a f)) (nI c) fv oa ol ov n 0 (upd rk t (nI (a.1 - f))) (ra_blk dm (t * 3) (a.1 - f) (fun i => dm (s * 3 + f + i))) am lx ly lm lfx lfy lfr lp lk lc lf lM
      refine ra_loop0 (fun n i => wY_fillCell_99 post (nI t) (nI (ra_size a f)) (nI c) fv oa ol ov n (nI i) (upd rk t (nI (a.1 - f))) (ra_blk dm (t * 3) (a.1 - f) (fun i => dm (s * 3 + f + i))) (ra_blk am (t * 32) i (fun _ => fv)) lx ly lm lfx lfy lfr lp lk lc lf lM) (ra_size a f) (fun n => ?_) (fun n i hi ih => ?_) (fun n h => ?_)
      · simp only [wY_fillCell_99]
        exact br_t (nI_le (Nat.le_refl _) (by omega)) fin
      · simp (disch := omega) only [wY_fillCell_99, ra_m32, nI_add, nI_clamp, ra_inI, true_and, forall_eq, nI_1]
        refine br_f (nI_ge hi (by omega)) (br_f (by rw [ra_le32 (by omega)]; omega) ?_)
        rw [ra_blk_s rfl]
        exact ih
      · rw [ra_blk_0] at h
        exact h
    · have fin := hp rk (ra_blk dm (t * 3) (a.1 - f) (fun i => dm (s * 3 + f + i))) am (fun z => absurd z g) (fun j hj => ⟨rfl, fun i hi => ra_blk_out (by omega), fun _ _ => rfl⟩)
      rw [if_neg g] at fin
      exact br_f (show ¬ nI (ra_size a f) ≤ nI c from nI_ge (by omega) (by omega)) fin
  · simp (disch := omega) only [wY_fillCell_16, ra_m3, nI_add, nI_clamp, ra_inI, true_and, forall_eq, nI_1]
    refine br_f (nI_ge hi (by omega)) (br_f (by rw [ra_le3 (by omega)]; omega) ?_)
    rw [ra_blk_out (by omega), ra_blk_s rfl, ra_blk_out (by omega), Nat.add_assoc (s * 3), h.2.1 (f + i) (by omega), pk_mul]
    exact ih
  · rw [ra_blk_0] at h
    exact h
theorem ym_copySlot {post : SY → Prop} {s t : Nat} (hs : s < 11) (ht : t < 11) (hst : s ≠ t)
    (hp : post (nI c, fv, oa, ol, ov, upd rk t (rk s), ra_blk dm (t * 3) 3 (fun i => dm (s * 3 + i)), ra_blk am (t * 32) 32 (fun i => am (s * 32 + i)), lx, ly, lm, lfx, lfy, lfr, lp, lk, lc, lf, lM)) : wpY_copySlot post (nI c, fv, oa, ol, ov, rk, dm, am, lx, ly, lm, lfx, lfy, lfr, lp, lk, lc, lf, lM) (nI s) (nI t) := by
  unfold wpY_copySlot
  dsimp only
  rw [nI_clamp (by omega), nI_clamp (by omega)]
  refine ⟨vp_in_nI hs (by decide), vp_in_nI ht (by decide), nm_e ?_⟩
  refine ra_loop0 (fun n i => wY_copySlot_14 post (nI s) (nI t) (nI c) fv oa ol ov n (nI i) (upd rk t (rk s)) (ra_blk dm (t * 3) i (fun i => dm (s * 3 + i))) am lx ly lm lfx lfy lfr lp lk lc lf lM) 3 (fun n => ?_) (fun n i hi ih => ?_) (fun n h => ?_)
  · simp only [wY_copySlot_14]
    refine br_t (by decide) ?_
    refine ra_loop0 (fun n i => wY_copySlot_47 post (nI s) (nI t) (nI c) fv oa ol ov n (nI i) (upd rk t (rk s)) (ra_blk dm (t * 3) 3 (fun i => dm (s * 3 + i))) (ra_blk am (t * 32) i (fun i => am (s * 32 + i))) lx ly lm lfx lfy lfr lp lk lc lf lM) 32 (fun n => ?_) (fun n i hi ih => ?_) (fun n h => ?_)
    · simp only [wY_copySlot_47]
      exact br_t (by decide) hp
    · simp (disch := omega) only [wY_copySlot_47, ra_m32, nI_add, nI_clamp, ra_inI, true_and, forall_eq, nI_1]
      refine br_f (by rw [ra_le32 (by omega)]; omega) ?_
      rw [ra_blk_out (by omega), ra_blk_s rfl]
      exact ih
    · rw [ra_blk_0] at h
      exact h
  · simp (disch := omega) only [wY_copySlot_14, ra_m3, nI_add, nI_clamp, ra_inI, true_and, forall_eq, nI_1]
    refine br_f (by rw [ra_le3 (by omega)]; omega) ?_
    rw [ra_blk_out (by omega), ra_blk_s rfl]
    exact ih
  · rw [ra_blk_0] at h
    exact h
theorem ym_ok {post : Int32 → Prop} {p : Int32} (h0 : p < 0 ∨ 4 ≤ p → post 0) (h1 : ∀ s : Nat, s < 4 → p = nI s → post 1) : wpY_ok post (nI c, fv, oa, ol, ov, rk, dm, am, lx, ly, lm, lfx, lfy, lfr, lp, lk, lc, lf, lM) p := by
  unfold wpY_ok
  by_cases a : p < 0
  · exact br_t a (h0 (.inl a))
  · refine br_f a ?_
    by_cases b : 4 ≤ p
    · exact br_t b (h0 (.inr b))
    · obtain ⟨s, hs, rfl⟩ := nI_of a
      exact br_f b (h1 s (by rw [ra_le4 hs] at b; omega) rfl)
end
end
section
/-! the reference: the primitives -/
section
variable {post : Int32 → SY → Prop} {c sx sy t : Nat} {x y : ra_A} {fv oa ol ov : Int32} {rk dm am lx ly lm lfx lfy lfr lp lk lc lf lM : Nat → Int32}

theorem ym_head {v : Nat} (hsx : sx < 11) (hsy : sy < 11) (hy : ra_H rk dm am sy y) (wy : ra_W c y) (hp : wY_prim_112 post (nI v) (nI sx) (nI sy) (nI t) (nI y.1) (am (sx * 32)) (am (sy * 32)) (nI (ra_cnt y)) (nI (ra_len y)) (nI (y.1 - 1)) (nI (ra_it y)) (nI c) fv oa ol ov rk dm am lx ly lm lfx lfy lfr lp lk lc lf lM
) : wpY_prim post (nI c, fv, oa, ol, ov, rk, dm, am, lx, ly, lm, lfx, lfy, lfr, lp, lk, lc, lf, lM) (nI v) (nI sx) (nI sy) (nI t) := by
  have y3 := wy.1
  have lp : ∀ z0, z0 = nI (ra_len y) → wY_prim_54 post (nI v) (nI sx) (nI sy) (nI t) (nI y.1) (am (sx * 32)) (am (sy * 32)) (nI (ra_cnt y)) z0 (nI c) fv oa ol ov rk dm am lx ly lm lfx lfy lfr lp lk lc lf lM := by
    intro z0 ez
    subst ez
    have l2 : ∃ n, wY_prim_77 post (nI v) (nI sx) (nI sy) (nI t) (nI y.1) (am (sx * 32)) (am (sy * 32)) (nI (ra_cnt y)) (nI (ra_len y)) (nI (y.1 - 1)) (nI c) fv oa ol ov rk dm am lx ly lm lfx lfy lfr lp lk lc lf lM n 1 1 := by
      refine ra_loop (fun n i => wY_prim_77 post (nI v) (nI sx) (nI sy) (nI t) (nI y.1) (am (sx * 32)) (am (sy * 32)) (nI (ra_cnt y)) (nI (ra_len y)) (nI (y.1 - 1)) (nI c) fv oa ol ov rk dm am lx ly lm lfx lfy lfr lp lk lc lf lM n (nI (ra_prod y.2.1 1 i)) (nI (1 + i))) (y.1 - 1) (fun n => ?_) (fun n i hi ih => ?_) 0 (Nat.zero_le _)
      · simp only [wY_prim_77]
        exact br_t (nI_le (by omega) (by omega)) hp
      · simp (disch := omega) only [wY_prim_77, ra_m3, nI_add, nI_clamp, ra_inI, true_and, forall_eq, nI_1, hy.2.1 (1 + i) (by omega), pk_mul]
        refine br_f (nI_ge (by omega) (by omega)) (br_f (by rw [ra_le3 (by omega)]; omega) ?_)
        exact ih
    unfold wY_prim_54
    by_cases e : y.1 = 0
    · refine br_t (by rw [e]; rfl) ?_
      rw [show nI (y.1 - 1) = 0 by rw [e]; rfl] at l2
      exact l2
    · exact br_f (nI_ne0 (by omega) (by omega)) (nm_r (pk_sub (b := 1) (by omega)) l2)
  unfold wpY_prim
  dsimp only
  simp (disch := omega) only [ra_m3, ra_m32, nI_clamp, ra_inI, true_and, forall_eq, hy.1]
  refine ym_cnt hsy y3 hy.1 hy.2.1 ?_
  by_cases e : y.1 = 0
  · refine br_t (by rw [e]; rfl) (lp _ ?_)
    unfold ra_len
    rw [if_pos e]; rfl
  · refine br_f (nI_ne0 (by omega) (by omega)) (lp _ ?_)
    unfold ra_len
    rw [if_neg e]
    exact hy.2.1 0 (by omega)
theorem ym_206 {v : Nat} {z : Int32} (ht : t < 11) (e0 : ra_PE c v x y = 0) (ez : ra_PA fv v x y = ra_sc z) (hp : ∀ rk' dm' am', (∀ j, j ≠ t → ra_S rk dm am rk' dm' am' j) → (ra_PE c v x y = 0 → ra_H rk' dm' am' t (ra_PA fv v x y)) → post (ra_PE c v x y) (nI c, fv, oa, ol, ov, rk', dm', am', lx, ly, lm, lfx, lfy, lfr, lp, lk, lc, lf, lM))
 : wY_prim_206 post (nI t) z (nI c) fv oa ol ov rk dm am lx ly lm lfx lfy lfr lp lk lc lf lM := by
  unfold wY_prim_206
  simp (disch := omega) only [ra_m32, nI_clamp, ra_inI, true_and, forall_eq]
  have := hp (upd rk t 0) dm (upd am (t * 32) z) (fun j hj => ra_S_sc hj) (fun _ => by rw [ez]; exact ra_H_sc)
  rw [e0] at this
  exact this
theorem ym_p0 (ht : t < 11) (hy : am (sy * 32) = y.2.2 0) (hp : ∀ rk' dm' am', (∀ j, j ≠ t → ra_S rk dm am rk' dm' am' j) → (ra_PE c 0 x y = 0 → ra_H rk' dm' am' t (ra_PA fv 0 x y)) → post (ra_PE c 0 x y) (nI c, fv, oa, ol, ov, rk', dm', am', lx, ly, lm, lfx, lfy, lfr, lp, lk, lc, lf, lM))
 : wY_prim_112 post 0 (nI sx) (nI sy) (nI t) (nI y.1) (am (sx * 32)) (am (sy * 32)) (nI (ra_cnt y)) (nI (ra_len y)) (nI (y.1 - 1)) (nI (ra_it y)) (nI c) fv oa ol ov rk dm am lx ly lm lfx lfy lfr lp lk lc lf lM
 := by
  unfold wY_prim_112 wY_prim_140 wY_prim_158 wY_prim_171 wY_prim_184
  refine br_t rfl ?_
  rw [hy]
  exact nm_e (br_f (by decide) (br_f (by decide) (br_f (by decide) (br_f (by decide) (ym_206 (v := 0) ht (ra_PEz (by decide) (by decide) (by decide) (by decide) (by decide)) (by unfold ra_PA; rw [if_pos rfl]) hp)))))
theorem ym_p6 (ht : t < 11) (hy : am (sy * 32) = y.2.2 0) (hx : am (sx * 32) = x.2.2 0) (hp : ∀ rk' dm' am', (∀ j, j ≠ t → ra_S rk dm am rk' dm' am' j) → (ra_PE c 6 x y = 0 → ra_H rk' dm' am' t (ra_PA fv 6 x y)) → post (ra_PE c 6 x y) (nI c, fv, oa, ol, ov, rk', dm', am', lx, ly, lm, lfx, lfy, lfr, lp, lk, lc, lf, lM))
 : wY_prim_112 post 6 (nI sx) (nI sy) (nI t) (nI y.1) (am (sx * 32)) (am (sy * 32)) (nI (ra_cnt y)) (nI (ra_len y)) (nI (y.1 - 1)) (nI (ra_it y)) (nI c) fv oa ol ov rk dm am lx ly lm lfx lfy lfr lp lk lc lf lM
 := by
  unfold wY_prim_112 wY_prim_140 wY_prim_158 wY_prim_171 wY_prim_184
  refine br_f (by decide) (br_t rfl ?_)
  rw [hy, hx]
  exact nm_e (br_t rfl (nm_e (br_f (by decide) (br_f (by decide) (br_f (by decide) (ym_206 (v := 6) ht (ra_PEz (by decide) (by decide) (by decide) (by decide) (by decide)) (by unfold ra_PA; rw [if_neg (by decide), if_neg (by decide), if_neg (by decide), if_neg (by decide), if_neg (by decide), if_neg (by decide), if_pos rfl]) hp))))))
theorem ym_p7 (ht : t < 11) (hy : am (sy * 32) = y.2.2 0) (hx : am (sx * 32) = x.2.2 0) (hp : ∀ rk' dm' am', (∀ j, j ≠ t → ra_S rk dm am rk' dm' am' j) → (ra_PE c 7 x y = 0 → ra_H rk' dm' am' t (ra_PA fv 7 x y)) → post (ra_PE c 7 x y) (nI c, fv, oa, ol, ov, rk', dm', am', lx, ly, lm, lfx, lfy, lfr, lp, lk, lc, lf, lM))
 : wY_prim_112 post 7 (nI sx) (nI sy) (nI t) (nI y.1) (am (sx * 32)) (am (sy * 32)) (nI (ra_cnt y)) (nI (ra_len y)) (nI (y.1 - 1)) (nI (ra_it y)) (nI c) fv oa ol ov rk dm am lx ly lm lfx lfy lfr lp lk lc lf lM
 := by
  unfold wY_prim_112 wY_prim_140 wY_prim_158 wY_prim_171 wY_prim_184
  refine br_f (by decide) (br_f (by decide) (br_t rfl ?_))
  rw [hy, hx]
  exact nm_e (br_f (by decide) (br_t rfl (nm_e (br_f (by decide) (br_f (by decide) (ym_206 (v := 7) ht (ra_PEz (by decide) (by decide) (by decide) (by decide) (by decide)) (by unfold ra_PA; rw [if_neg (by decide), if_neg (by decide), if_neg (by decide), if_neg (by decide), if_neg (by decide), if_neg (by decide), if_neg (by decide), if_pos rfl]) hp))))))
theorem ym_p8 (ht : t < 11) (hy : am (sy * 32) = y.2.2 0) (hx : am (sx * 32) = x.2.2 0) (hp : ∀ rk' dm' am', (∀ j, j ≠ t → ra_S rk dm am rk' dm' am' j) → (ra_PE c 8 x y = 0 → ra_H rk' dm' am' t (ra_PA fv 8 x y)) → post (ra_PE c 8 x y) (nI c, fv, oa, ol, ov, rk', dm', am', lx, ly, lm, lfx, lfy, lfr, lp, lk, lc, lf, lM))
 : wY_prim_112 post 8 (nI sx) (nI sy) (nI t) (nI y.1) (am (sx * 32)) (am (sy * 32)) (nI (ra_cnt y)) (nI (ra_len y)) (nI (y.1 - 1)) (nI (ra_it y)) (nI c) fv oa ol ov rk dm am lx ly lm lfx lfy lfr lp lk lc lf lM
 := by
  unfold wY_prim_112 wY_prim_140 wY_prim_158 wY_prim_171 wY_prim_184
  refine br_f (by decide) (br_f (by decide) (br_f (by decide) (br_t rfl ?_)))
  rw [hy, hx]
  exact nm_e (br_f (by decide) (br_f (by decide) (br_t rfl (nm_e (br_f (by decide) (ym_206 (v := 8) ht (ra_PEz (by decide) (by decide) (by decide) (by decide) (by decide)) (by unfold ra_PA; rw [if_neg (by decide), if_neg (by decide), if_neg (by decide), if_neg (by decide), if_neg (by decide), if_neg (by decide), if_neg (by decide), if_neg (by decide), if_pos rfl]) hp))))))
theorem ym_p9 (ht : t < 11) (hy : am (sy * 32) = y.2.2 0) (hx : am (sx * 32) = x.2.2 0) (hp : ∀ rk' dm' am', (∀ j, j ≠ t → ra_S rk dm am rk' dm' am' j) → (ra_PE c 9 x y = 0 → ra_H rk' dm' am' t (ra_PA fv 9 x y)) → post (ra_PE c 9 x y) (nI c, fv, oa, ol, ov, rk', dm', am', lx, ly, lm, lfx, lfy, lfr, lp, lk, lc, lf, lM))
 : wY_prim_112 post 9 (nI sx) (nI sy) (nI t) (nI y.1) (am (sx * 32)) (am (sy * 32)) (nI (ra_cnt y)) (nI (ra_len y)) (nI (y.1 - 1)) (nI (ra_it y)) (nI c) fv oa ol ov rk dm am lx ly lm lfx lfy lfr lp lk lc lf lM
 := by
  unfold wY_prim_112 wY_prim_140 wY_prim_158 wY_prim_171 wY_prim_184 wY_prim_204
  refine br_f (by decide) (br_f (by decide) (br_f (by decide) (br_f (by decide) (br_t rfl ?_))))
  rw [hy, hx]
  refine nm_e (br_f (by decide) (br_f (by decide) (br_f (by decide) (br_t rfl ?_))))
  by_cases g : y.2.2 0 < x.2.2 0
  · exact br_f (Int32.not_le.mpr g) (ym_206 (v := 9) ht (ra_PEz (by decide) (by decide) (by decide) (by decide) (by decide)) (by unfold ra_PA; rw [if_neg (by decide), if_neg (by decide), if_neg (by decide), if_neg (by decide), if_neg (by decide), if_neg (by decide), if_neg (by decide), if_neg (by decide), if_neg (by decide), if_pos rfl, if_pos g]) hp)
  · exact br_t (Int32.not_lt.mp g) (ym_206 (v := 9) ht (ra_PEz (by decide) (by decide) (by decide) (by decide) (by decide)) (by unfold ra_PA; rw [if_neg (by decide), if_neg (by decide), if_neg (by decide), if_neg (by decide), if_neg (by decide), if_neg (by decide), if_neg (by decide), if_neg (by decide), if_neg (by decide), if_pos rfl, if_neg g]) hp)
theorem ym_p1 (hc : c ≤ 32) (ht : t < 11) (hy0 : am (sy * 32) = y.2.2 0) (hp : ∀ rk' dm' am', (∀ j, j ≠ t → ra_S rk dm am rk' dm' am' j) → (ra_PE c 1 x y = 0 → ra_H rk' dm' am' t (ra_PA fv 1 x y)) → post (ra_PE c 1 x y) (nI c, fv, oa, ol, ov, rk', dm', am', lx, ly, lm, lfx, lfy, lfr, lp, lk, lc, lf, lM))
 : wY_prim_112 post 1 (nI sx) (nI sy) (nI t) (nI y.1) (am (sx * 32)) (am (sy * 32)) (nI (ra_cnt y)) (nI (ra_len y)) (nI (y.1 - 1)) (nI (ra_it y)) (nI c) fv oa ol ov rk dm am lx ly lm lfx lfy lfr lp lk lc lf lM
 := by
  unfold wY_prim_112
  refine br_f (by decide) (br_f (by decide) (br_f (by decide) (br_f (by decide) (br_f (by decide) (br_t rfl ?_)))))
  rw [hy0]
  by_cases a : y.2.2 0 < 0
  · have e : ra_PE c 1 x y = -2 := by rw [ra_PE1, if_pos a]
    have := hp rk dm am (fun _ _ => ra_S_r) (fun z => absurd (e.symm.trans z) (by decide))
    rw [e] at this
    exact br_f (Int32.not_le.mpr a) this
  · refine br_t (Int32.not_lt.mp a) ?_
    by_cases b : nI c < y.2.2 0
    · have e : ra_PE c 1 x y = -4 := by rw [ra_PE1, if_neg a, if_pos b]
      have := hp rk dm am (fun _ _ => ra_S_r) (fun z => absurd (e.symm.trans z) (by decide))
      rw [e] at this
      exact br_f (Int32.not_le.mpr b) this
    · refine br_t (Int32.not_lt.mp b) ?_
      have e : ra_PE c 1 x y = 0 := by rw [ra_PE1, if_neg a, if_neg b]
      obtain ⟨n, hn, en⟩ := nI_of a
      rw [en] at b ⊢
      rw [nI_ltI (by omega) hn] at b
      have fin := hp (upd rk t 1) (upd dm (t * 3) (nI n)) (ra_blk am (t * 32) n nI) (fun j hj => ra_S_list (by omega) hj) (fun _ => by
        rw [ra_PA1, en, nI_clamp hn]
        exact ra_H_list (fun i _ => rfl))
      rw [e] at fin
      simp (disch := omega) only [ra_m3, nI_clamp, ra_inI, true_and, forall_eq]
      refine ra_loop0 (fun m i => wY_prim_275 post (nI t) (nI n) (nI c) fv oa ol ov m (nI i) (upd rk t 1) (upd dm (t * 3) (nI n)) (ra_blk am (t * 32) i nI) lx ly lm lfx lfy lfr lp lk lc lf lM) n (fun m => ?_) (fun m i hi ih => ?_) (fun m h => ?_)
      · simp only [wY_prim_275]
        exact br_t (nI_le (Nat.le_refl _) (by omega)) fin
      · simp (disch := omega) only [wY_prim_275, ra_m32, nI_add, nI_clamp, ra_inI, true_and, forall_eq, nI_1]
        refine br_f (nI_ge hi (by omega)) (br_f (by rw [ra_le32 (by omega)]; omega) ?_)
        rw [ra_blk_s rfl]
        exact ih
      · rw [ra_blk_0] at h
        exact h
theorem ym_p2 (hc : c ≤ 32) (hsy : sy < 11) (ht : t < 11) (hst : sy ≠ t) (hy : ra_H rk dm am sy y) (wy : ra_W c y) (hp : ∀ rk' dm' am', (∀ j, j ≠ t → ra_S rk dm am rk' dm' am' j) → (ra_PE c 2 x y = 0 → ra_H rk' dm' am' t (ra_PA fv 2 x y)) → post (ra_PE c 2 x y) (nI c, fv, oa, ol, ov, rk', dm', am', lx, ly, lm, lfx, lfy, lfr, lp, lk, lc, lf, lM))
 : wY_prim_112 post 2 (nI sx) (nI sy) (nI t) (nI y.1) (am (sx * 32)) (am (sy * 32)) (nI (ra_cnt y)) (nI (ra_len y)) (nI (y.1 - 1)) (nI (ra_it y)) (nI c) fv oa ol ov rk dm am lx ly lm lfx lfy lfr lp lk lc lf lM
 := by
  have y3 := wy.1
  have e : ra_PE c 2 x y = 0 := ra_PEz (by decide) (by decide) (by decide) (by decide) (by decide)
  have fin := hp (upd rk t 1) (upd dm (t * 3) (nI y.1)) (ra_blk am (t * 32) y.1 (fun i => dm (sy * 3 + i))) (fun j hj => ra_S_list (by omega) hj) (fun _ =>
    ra_P2 hy pk_us pk_us (fun i hi => ra_blk_in hi))
  rw [e] at fin
  unfold wY_prim_112
  refine br_f (by decide) (br_f (by decide) (br_f (by decide) (br_f (by decide) (br_f (by decide) (br_f (by decide) (br_t rfl ?_))))))
  simp (disch := omega) only [ra_m3, nI_clamp, ra_inI, true_and, forall_eq]
  refine ra_loop0 (fun m i => wY_prim_339 post (nI sy) (nI t) (nI y.1) (nI c) fv oa ol ov m (nI i) (upd rk t 1) (upd dm (t * 3) (nI y.1)) (ra_blk am (t * 32) i (fun i => dm (sy * 3 + i))) lx ly lm lfx lfy lfr lp lk lc lf lM) y.1 (fun m => ?_) (fun m i hi ih => ?_) (fun m h => ?_)
  · simp only [wY_prim_339]
    exact br_t (nI_le (Nat.le_refl _) (by omega)) fin
  · simp (disch := omega) only [wY_prim_339, ra_m3, ra_m32, nI_add, nI_clamp, ra_inI, true_and, forall_eq, nI_1]
    refine br_f (nI_ge hi (by omega)) (br_f (by rw [ra_le3 (by omega)]; omega) ?_)
    rw [pk_un (by omega), ra_blk_s rfl]
    exact ih
  · rw [ra_blk_0] at h
    exact h
theorem ym_p5 (hc : c ≤ 32) (hsy : sy < 11) (ht : t < 11) (hst : sy ≠ t) (hy : ra_H rk dm am sy y) (wy : ra_W c y) (hp : ∀ rk' dm' am', (∀ j, j ≠ t → ra_S rk dm am rk' dm' am' j) → (ra_PE c 5 x y = 0 → ra_H rk' dm' am' t (ra_PA fv 5 x y)) → post (ra_PE c 5 x y) (nI c, fv, oa, ol, ov, rk', dm', am', lx, ly, lm, lfx, lfy, lfr, lp, lk, lc, lf, lM))
 : wY_prim_112 post 5 (nI sx) (nI sy) (nI t) (nI y.1) (am (sx * 32)) (am (sy * 32)) (nI (ra_cnt y)) (nI (ra_len y)) (nI (y.1 - 1)) (nI (ra_it y)) (nI c) fv oa ol ov rk dm am lx ly lm lfx lfy lfr lp lk lc lf lM
 := by
  have yc := wy.2.2
  have e : ra_PE c 5 x y = 0 := ra_PEz (by decide) (by decide) (by decide) (by decide) (by decide)
  have fin := hp (upd rk t 1) (upd dm (t * 3) (nI (ra_cnt y))) (ra_blk am (t * 32) (ra_cnt y) (fun i => am (sy * 32 + i))) (fun j hj => ra_S_list (by omega) hj) (fun _ =>
    ra_P5 hy pk_us pk_us (fun i hi => ra_blk_in hi))
  rw [e] at fin
  unfold wY_prim_112
  refine br_f (by decide) (br_f (by decide) (br_f (by decide) (br_f (by decide) (br_f (by decide) (br_f (by decide) (br_f (by decide) (br_t rfl ?_)))))))
  simp (disch := omega) only [ra_m3, nI_clamp, ra_inI, true_and, forall_eq]
  refine ra_loop0 (fun m i => wY_prim_411 post (nI sy) (nI t) (nI (ra_cnt y)) (nI c) fv oa ol ov m (nI i) (upd rk t 1) (upd dm (t * 3) (nI (ra_cnt y))) (ra_blk am (t * 32) i (fun i => am (sy * 32 + i))) lx ly lm lfx lfy lfr lp lk lc lf lM) (ra_cnt y) (fun m => ?_) (fun m i hi ih => ?_) (fun m h => ?_)
  · simp only [wY_prim_411]
    exact br_t (nI_le (Nat.le_refl _) (by omega)) fin
  · simp (disch := omega) only [wY_prim_411, ra_m32, nI_add, nI_clamp, ra_inI, true_and, forall_eq, nI_1]
    refine br_f (nI_ge hi (by omega)) (br_f (by rw [ra_le32 (by omega)]; omega) ?_)
    rw [ra_blk_out (by omega), ra_blk_s rfl]
    exact ih
  · rw [ra_blk_0] at h
    exact h
theorem ym_p3 (hc : c ≤ 32) (hsy : sy < 11) (ht : t < 11) (hst : sy ≠ t) (hy : ra_H rk dm am sy y) (wy : ra_W c y) (hp : ∀ rk' dm' am', (∀ j, j ≠ t → ra_S rk dm am rk' dm' am' j) → (ra_PE c 3 x y = 0 → ra_H rk' dm' am' t (ra_PA fv 3 x y)) → post (ra_PE c 3 x y) (nI c, fv, oa, ol, ov, rk', dm', am', lx, ly, lm, lfx, lfy, lfr, lp, lk, lc, lf, lM))
 : wY_prim_112 post 3 (nI sx) (nI sy) (nI t) (nI y.1) (am (sx * 32)) (am (sy * 32)) (nI (ra_cnt y)) (nI (ra_len y)) (nI (y.1 - 1)) (nI (ra_it y)) (nI c) fv oa ol ov rk dm am lx ly lm lfx lfy lfr lp lk lc lf lM
 := by
  have y3 := wy.1
  have yc := wy.2.2
  rw [ra_cnt_li] at yc
  have ib := ra_it_le hc wy
  have e : ra_PE c 3 x y = 0 := ra_PEz (by decide) (by decide) (by decide) (by decide) (by decide)
  have lb : ra_len y ≤ 32 := by
    unfold ra_len
    split
    · decide
    · exact Nat.le_trans (wy.2.1 0 (by omega)) hc
  unfold wY_prim_112 wY_prim_468
  refine br_f (by decide) (br_f (by decide) (br_f (by decide) (br_f (by decide) (br_f (by decide) (br_f (by decide) (br_f (by decide) (br_f (by decide) (br_t rfl ?_))))))))
  by_cases y0 : y.1 = 0
  · refine br_t (by rw [y0]; rfl) ?_
    simp (disch := omega) only [ra_m32, nI_clamp, ra_inI, true_and, forall_eq]
    have fin := hp (upd rk t 0) dm (upd am (t * 32) (am (sy * 32))) (fun j hj => ra_S_sc hj) (fun _ => ra_P3_0 y0 hy pk_us pk_us)
    rw [e] at fin
    exact fin
  refine br_f (nI_ne0 (by omega) (by omega)) ?_
  unfold wY_prim_495
  refine br_t rfl ?_
  simp (disch := omega) only [nI_clamp, ra_inI, true_and, forall_eq]
  have fin := hp (upd rk t (nI y.1)) (ra_blk dm (t * 3) 3 (fun i => dm (sy * 3 + i))) (ra_blk am (t * 32) (ra_len y * ra_it y) (fun n => am (sy * 32 + ((ra_len y - 1 - n / ra_it y) * ra_it y + n % ra_it y))))
    (fun j hj => ra_S_blk (by omega) (by omega) hj) (fun _ =>
    ra_P3 hy pk_us (fun i hi => (ra_blk_in (by omega)).trans (hy.2.1 i hi)) (fun i hi => ra_blk_in hi))
  rw [e] at fin
  refine ra_loop0 (fun m i => wY_prim_512 post (nI sy) (nI t) (nI (ra_len y)) (nI (ra_it y)) (nI c) fv oa ol ov m (nI i) (upd rk t (nI y.1)) (ra_blk dm (t * 3) i (fun i => dm (sy * 3 + i))) am lx ly lm lfx lfy lfr lp lk lc lf lM) 3 (fun m => ?_) (fun m i hi ih => ?_) (fun m h => ?_)
  · simp only [wY_prim_512]
    refine br_t (by decide) ?_
    refine ra_loop0 (fun m j => wY_prim_550 post (nI sy) (nI t) (nI (ra_len y)) (nI (ra_it y)) (nI c) fv oa ol ov m (nI j) (upd rk t (nI y.1)) (ra_blk dm (t * 3) 3 (fun i => dm (sy * 3 + i))) (ra_blk am (t * 32) (j * ra_it y) (fun n => am (sy * 32 + ((ra_len y - 1 - n / ra_it y) * ra_it y + n % ra_it y)))) lx ly lm lfx lfy lfr lp lk lc lf lM) (ra_len y) (fun m => ?_) (fun m j hj ih => ?_) (fun m h => ?_)
    · simp only [wY_prim_550]
      exact br_t (nI_le (Nat.le_refl _) (by omega)) fin
    · simp only [wY_prim_550]
      refine br_f (nI_ge hj (by omega)) (br_f (by rw [ra_le32 (by omega)]; omega) ?_)
      refine ra_loop0 (fun m2 k => wY_prim_567 post (wY_prim_550 post (nI sy) (nI t) (nI (ra_len y)) (nI (ra_it y)) (nI c) fv oa ol ov m) (nI sy) (nI t) (nI (ra_len y)) (nI (ra_it y)) (nI j) (nI c) fv oa ol ov m2 (nI k) (upd rk t (nI y.1)) (ra_blk dm (t * 3) 3 (fun i => dm (sy * 3 + i))) (ra_blk am (t * 32) (j * ra_it y + k) (fun n => am (sy * 32 + ((ra_len y - 1 - n / ra_it y) * ra_it y + n % ra_it y)))) lx ly lm lfx lfy lfr lp lk lc lf lM) (ra_it y) (fun m2 => ?_) (fun m2 k hk ih2 => ?_) (fun m2 h => ?_)
      · simp only [wY_prim_567, nI_1, forall_eq]
        rw [Nat.succ_mul] at ih
        exact br_t (nI_le (Nat.le_refl _) (by omega)) ih
      · have b1 := ra_part (c := 32) hj (by omega) hk
        have b2 := ra_part (q := ra_len y - 1 - j) (c := 32) (show ra_len y - 1 - j < ra_len y by omega) (by omega) hk
        simp only [wY_prim_567]
        rw [show nI (ra_len y) - 1 - nI j = nI (ra_len y - 1 - j) by rw [show (1 : Int32) = nI 1 from rfl, pk_sub (by omega), pk_sub (by omega)]]
        simp (disch := omega) only [ra_m32, pk_mul, nI_add, nI_clamp, ra_inI, true_and, forall_eq, nI_1]
        refine br_f (nI_ge hk (by omega)) (br_f (by rw [ra_le32 (by omega)]; omega) (br_f (nI_pos (by omega)) (br_f (by rw [ra_le32 (by omega)]; omega) (br_f (nI_pos (by omega)) (br_f (by rw [ra_le32 (by omega)]; omega) ?_)))))
        rw [ra_blk_out (by omega), ra_blk_s (by rw [(ra_item hk).1, (ra_item hk).2])]
        exact ih2
      · exact h
    · rw [Nat.zero_mul, ra_blk_0] at h
      exact h
  · simp (disch := omega) only [wY_prim_512, ra_m3, nI_add, nI_clamp, ra_inI, true_and, forall_eq, nI_1]
    refine br_f (by rw [ra_le3 (by omega)]; omega) ?_
    rw [ra_blk_out (by omega), ra_blk_s rfl]
    exact ih
  · rw [ra_blk_0] at h
    exact h
theorem ym_p4 (h8 : 8 ≤ c) (hc : c ≤ 32) (hsy : sy < 11) (ht : t < 11) (hst : sy ≠ t) (hy : ra_H rk dm am sy y) (wy : ra_W c y) (hp : ∀ rk' dm' am', (∀ j, j ≠ t → ra_S rk dm am rk' dm' am' j) → (ra_PE c 4 x y = 0 → ra_H rk' dm' am' t (ra_PA fv 4 x y)) → post (ra_PE c 4 x y) (nI c, fv, oa, ol, ov, rk', dm', am', lx, ly, lm, lfx, lfy, lfr, lp, lk, lc, lf, lM))
 : wY_prim_112 post 4 (nI sx) (nI sy) (nI t) (nI y.1) (am (sx * 32)) (am (sy * 32)) (nI (ra_cnt y)) (nI (ra_len y)) (nI (y.1 - 1)) (nI (ra_it y)) (nI c) fv oa ol ov rk dm am lx ly lm lfx lfy lfr lp lk lc lf lM
 := by
  have y3 := wy.1
  have yc := wy.2.2
  rw [ra_cnt_li] at yc
  have ib := ra_it_le hc wy
  have lb := ra_len_le (by omega) wy
  have hd1 : ∀ i, i < y.1 - 1 → dm (sy * 3 + 1 + i) = nI (y.2.1 (1 + i)) := fun i hi => by
    rw [Nat.add_assoc]; exact hy.2.1 (1 + i) (by omega)
  unfold wY_prim_112 wY_prim_468
  refine br_f (by decide) (br_f (by decide) (br_f (by decide) (br_f (by decide) (br_f (by decide) (br_f (by decide) (br_f (by decide) (br_f (by decide) (br_f (by decide) (br_t rfl ?_)))))))))
  by_cases y0 : y.1 = 0
  · have e : ra_PE c 4 x y = 0 := by rw [ra_PE4, (ra_it_0 y0).1, if_neg (by omega)]
    refine br_t (by rw [y0]; rfl) ?_
    simp (disch := omega) only [ra_m32, nI_clamp, ra_inI, true_and, forall_eq]
    have fin := hp (upd rk t 0) dm (upd am (t * 32) (am (sy * 32))) (fun j hj => ra_S_sc hj) (fun _ => ra_P4_0 y0 hy pk_us pk_us)
    rw [e] at fin
    exact fin
  refine br_f (nI_ne0 (by omega) (by omega)) ?_
  unfold wY_prim_495
  refine br_f (by decide) (br_t rfl ?_)
  by_cases g : c < ra_it y
  · have e : ra_PE c 4 x y = -4 := by rw [ra_PE4, if_pos g]
    have := hp rk dm am (fun _ _ => ra_S_r) (fun z => absurd (e.symm.trans z) (by decide))
    rw [e] at this
    exact br_f (nI_ge g (by omega)) this
  have e : ra_PE c 4 x y = 0 := by rw [ra_PE4, if_neg g]
  refine br_t (nI_le (by omega) (by omega)) ?_
  rw [show nI y.1 - 1 = nI (y.1 - 1) from pk_sub (b := 1) (by omega)]
  simp (disch := omega) only [nI_clamp, ra_inI, true_and, forall_eq]
  have fin := hp (upd rk t (nI (y.1 - 1))) (ra_blk dm (t * 3) (y.1 - 1) (fun i => dm (sy * 3 + 1 + i))) (ra_blk am (t * 32) (ra_it y) (fun i => ra_sum (fun j => am (sy * 32 + (j * ra_it y + i))) (ra_len y)))
    (fun j hj => ra_S_blk (by omega) (by omega) hj) (fun _ =>
    ra_P4 hy pk_us (fun i hi => (ra_blk_in hi).trans (hd1 i hi)) (fun i hi => ra_blk_in hi))
  rw [e] at fin
  refine ra_loop0 (fun m i => wY_prim_700 post (nI sy) (nI t) (nI y.1) (nI (ra_len y)) (nI (ra_it y)) (nI c) fv oa ol ov m (nI i) (upd rk t (nI (y.1 - 1))) (ra_blk dm (t * 3) i (fun i => dm (sy * 3 + 1 + i))) am lx ly lm lfx lfy lfr lp lk lc lf lM) (y.1 - 1) (fun m => ?_) (fun m i hi ih => ?_) (fun m h => ?_)
  · simp only [wY_prim_700, nI_1]
    refine br_t (nI_le (by omega) (by omega)) ?_
    refine ra_loop0 (fun m i => wY_prim_749 post (nI sy) (nI t) (nI (ra_len y)) (nI (ra_it y)) (nI c) fv oa ol ov m (nI i) (upd rk t (nI (y.1 - 1))) (ra_blk dm (t * 3) (y.1 - 1) (fun i => dm (sy * 3 + 1 + i))) (ra_blk am (t * 32) i (fun i => ra_sum (fun j => am (sy * 32 + (j * ra_it y + i))) (ra_len y))) lx ly lm lfx lfy lfr lp lk lc lf lM) (ra_it y) (fun m => ?_) (fun m i hi ih => ?_) (fun m h => ?_)
    · simp only [wY_prim_749]
      exact br_t (nI_le (Nat.le_refl _) (by omega)) fin
    · simp only [wY_prim_749]
      refine br_f (nI_ge hi (by omega)) (br_f (by rw [ra_le32 (by omega)]; omega) ?_)
      refine ra_loop (fun m2 j => wY_prim_769 post (wY_prim_749 post (nI sy) (nI t) (nI (ra_len y)) (nI (ra_it y)) (nI c) fv oa ol ov m) (nI sy) (nI t) (nI (ra_len y)) (nI (ra_it y)) (nI i) (nI c) fv oa ol ov (upd rk t (nI (y.1 - 1))) (ra_blk dm (t * 3) (y.1 - 1) (fun i => dm (sy * 3 + 1 + i))) (ra_blk am (t * 32) i (fun i => ra_sum (fun j => am (sy * 32 + (j * ra_it y + i))) (ra_len y))) lx ly lm lfx lfy lfr lp lk lc lf lM m2 (ra_sum (fun j => am (sy * 32 + (j * ra_it y + i))) j) (nI j)) (ra_len y) (fun m2 => ?_) (fun m2 j hj ih2 => ?_) 0 (Nat.zero_le _)
      · simp (disch := omega) only [wY_prim_769, wY_prim_828, ra_m32, nI_add, nI_clamp, ra_inI, true_and, forall_eq, nI_1]
        refine br_t (nI_le (Nat.le_refl _) (by omega)) ?_
        rw [ra_blk_s rfl]
        exact ih
      · have b1 := ra_part (c := 32) hj (by omega) hi
        simp (disch := omega) only [wY_prim_769, ra_m32, pk_mul, nI_add, nI_clamp, ra_inI, true_and, forall_eq, nI_1]
        refine br_f (nI_ge hj (by omega)) (br_f (by rw [ra_le32 (by omega)]; omega) (br_f (nI_pos (by omega)) (br_f (by rw [ra_le32 (by omega)]; omega) ?_)))
        rw [ra_blk_out (by omega)]
        exact ih2
    · rw [ra_blk_0] at h
      exact h
  · simp (disch := omega) only [wY_prim_700, ra_m3, nI_add, nI_clamp, ra_inI, true_and, forall_eq, nI_1]
    refine br_f (nI_ge (by omega) (by omega)) (br_f (by rw [ra_le2 (by omega)]; omega) ?_)
    rw [ra_blk_out (by omega), ra_blk_s rfl]
    exact ih
  · rw [ra_blk_0] at h
    exact h
end
end
section
/-! the reference: reshape, take, from -/
section
variable {post : Int32 → SY → Prop} {c sx sy t : Nat} {x y : ra_A} {fv oa ol ov : Int32} {rk dm am lx ly lm lfx lfy lfr lp lk lc lf lM : Nat → Int32}

theorem ym_p10 (h8 : 8 ≤ c) (hc : c ≤ 32) (hsx : sx < 11) (hsy : sy < 11) (ht : t < 11) (hxt : sx ≠ t) (hst : sy ≠ t) (hx : ra_H rk dm am sx x) (wx : ra_W c x) (hx1 : x.1 ≤ 1) (hy : ra_H rk dm am sy y) (wy : ra_W c y) (hp : ∀ rk' dm' am', (∀ j, j ≠ t → ra_S rk dm am rk' dm' am' j) → (ra_PE c 10 x y = 0 → ra_H rk' dm' am' t (ra_PA fv 10 x y)) → post (ra_PE c 10 x y) (nI c, fv, oa, ol, ov, rk', dm', am', lx, ly, lm, lfx, lfy, lfr, lp, lk, lc, lf, lM))
 : wY_prim_112 post 10 (nI sx) (nI sy) (nI t) (nI y.1) (am (sx * 32)) (am (sy * 32)) (nI (ra_cnt y)) (nI (ra_len y)) (nI (y.1 - 1)) (nI (ra_it y)) (nI c) fv oa ol ov rk dm am lx ly lm lfx lfy lfr lp lk lc lf lM
 := by
  have xc := wx.2.2
  have yc := wy.2.2
  have ha : ∀ i, i < ra_cnt x → am (sx * 32 + i) = x.2.2 i := fun i hi => hx.2.2 i hi
  have key : ∀ k i, i + k = ra_cnt x → (∀ j, j < i → ¬ x.2.2 j < 0) → ∀ n, wY_prim_883 post (nI sx) (nI sy) (nI t) (nI (ra_cnt y)) (nI (ra_cnt x)) (nI c) fv oa ol ov rk dm am lx ly lm lfx lfy lfr lp lk lc lf lM (n + k + 1) (nI i) := by
    intro k
    induction k with
    | zero =>
      intro i hi h n
      have hi' : i = ra_cnt x := by omega
      subst hi'
      have hneg : ¬ ra_neg x = true := by
        unfold ra_neg
        rw [ra_any_f (ra_cnt x) (fun j hj => decide_eq_false (h j hj))]
        exact Bool.false_ne_true
      rw [wY_prim_883]
      refine br_t (nI_le (Nat.le_refl _) (by omega)) ?_
      unfold wY_prim_921
      by_cases g3 : 3 < ra_cnt x
      · have e : ra_PE c 10 x y = -4 := by rw [ra_PE10, if_neg hneg, if_pos (.inl g3)]
        have := hp rk dm am (fun _ _ => ra_S_r) (fun z => absurd (e.symm.trans z) (by decide))
        rw [e] at this
        exact br_f (by rw [ra_gt3 (by omega)]; omega) this
      refine br_t (by rw [ra_gt3 (by omega)]; omega) ?_
      have key2 : ∀ k i, i + k = ra_cnt x → (∀ j, j < i → (x.2.2 j).toNatClampNeg ≤ c) → ∀ n, wY_prim_936 post (nI sx) (nI sy) (nI t) (nI (ra_cnt y)) (nI (ra_cnt x)) (nI c) fv oa ol ov rk dm am lx ly lm lfx lfy lfr lp lk lc lf lM (n + k + 1) (nI (ra_prod (fun i => (x.2.2 i).toNatClampNeg) 0 i)) (nI i) := by
        intro k
        induction k with
        | zero =>
          intro i hi h2 n
          have hi' : i = ra_cnt x := by omega
          subst hi'
          have hb2 : ra_prod (fun i => (x.2.2 i).toNatClampNeg) 0 (ra_cnt x) ≤ 32768 := Nat.le_trans (ra_prod_le (b := 32) _ (fun j hj => by rw [Nat.zero_add]; exact Nat.le_trans (h2 j hj) hc)) (ra_p32 (by omega))
          have hbig : ¬ ra_big c x = true := by
            unfold ra_big
            rw [ra_any_f (ra_cnt x) (fun j hj => decide_eq_false (fun z => by
              have q := ra_cl_n (h j hj)
              have b := ra_cl_b (x.2.2 j)
              have l := h2 j hj
              rw [q, nI_ltI (by omega) b] at z
              omega))]
            exact Bool.false_ne_true
          rw [wY_prim_936]
          refine br_t (nI_le (Nat.le_refl _) (by omega)) ?_
          by_cases gl : c < ra_prod (fun i => (x.2.2 i).toNatClampNeg) 0 (ra_cnt x)
          · have e : ra_PE c 10 x y = -4 := by rw [ra_PE10, if_neg hneg, if_pos (.inr (.inr gl))]
            have := hp rk dm am (fun _ _ => ra_S_r) (fun z => absurd (e.symm.trans z) (by decide))
            rw [e] at this
            exact br_f (nI_ge gl (by omega)) this
          have e : ra_PE c 10 x y = 0 := by rw [ra_PE10, if_neg hneg, if_neg (fun z => z.elim g3 (fun z => z.elim hbig gl))]
          refine br_t (nI_le (by omega) (by omega)) ?_
          simp (disch := omega) only [nI_clamp, ra_inI, true_and, forall_eq]
          have fin := hp (upd rk t (nI (ra_cnt x))) (ra_blk dm (t * 3) (ra_cnt x) (fun i => am (sx * 32 + i))) (ra_blk am (t * 32) (ra_prod (fun i => (x.2.2 i).toNatClampNeg) 0 (ra_cnt x)) (fun i => if 0 < ra_cnt y then am (sy * 32 + i % ra_cnt y) else fv))
            (fun j hj => ra_S_blk (by omega) (by omega) hj) (fun _ =>
            ra_P10 hy pk_us (fun i hi => (ra_blk_in hi).trans ((ha i hi).trans (ra_cl_n (h i hi)))) (fun i hi => ra_blk_in hi))
          rw [e] at fin
          generalize ra_prod (fun i => (x.2.2 i).toNatClampNeg) 0 (ra_cnt x) = TT at fin gl ⊢
          refine ra_loop0 (fun m i => wY_prim_1012 post (nI sx) (nI sy) (nI t) (nI (ra_cnt y)) (nI (ra_cnt x)) (nI TT) (nI c) fv oa ol ov m (nI i) (upd rk t (nI (ra_cnt x))) (ra_blk dm (t * 3) i (fun i => am (sx * 32 + i))) am lx ly lm lfx lfy lfr lp lk lc lf lM) (ra_cnt x) (fun m => ?_) (fun m i hi ih => ?_) (fun m h => ?_)
          · simp only [wY_prim_1012]
            refine br_t (nI_le (Nat.le_refl _) (by omega)) ?_
            refine ra_loop0 (fun m i => wY_prim_1052 post (nI sy) (nI t) (nI (ra_cnt y)) (nI TT) (nI c) fv oa ol ov m (nI i) (upd rk t (nI (ra_cnt x))) (ra_blk dm (t * 3) (ra_cnt x) (fun i => am (sx * 32 + i))) (ra_blk am (t * 32) i (fun i => if 0 < ra_cnt y then am (sy * 32 + i % ra_cnt y) else fv)) lx ly lm lfx lfy lfr lp lk lc lf lM) TT (fun m => ?_) (fun m i hi ih => ?_) (fun m h => ?_)
            · simp only [wY_prim_1052]
              exact br_t (nI_le (Nat.le_refl _) (by omega)) fin
            · simp only [wY_prim_1052]
              refine br_f (nI_ge hi (by omega)) (br_f (by rw [ra_le32 (by omega)]; omega) ?_)
              by_cases gy : 0 < ra_cnt y
              · have hm := Nat.mod_lt i gy
                refine br_f (nI_nle gy (by omega)) ⟨nI_ne0 gy (by omega), ?_⟩
                rw [pk_rem (by omega) gy (by omega)]
                simp (disch := omega) only [ra_m32, nI_add, nI_clamp, ra_inI, true_and, forall_eq, nI_1]
                rw [ra_blk_out (by omega), ra_blk_s (by rw [if_pos gy])]
                exact ih
              · refine br_t (by rw [ra_le0 (by omega)]; omega) ?_
                simp (disch := omega) only [ra_m32, nI_add, nI_clamp, ra_inI, true_and, forall_eq, nI_1]
                rw [ra_blk_s (by rw [if_neg gy])]
                exact ih
            · rw [ra_blk_0] at h
              exact h
          · simp (disch := omega) only [wY_prim_1012, ra_m3, ra_m32, nI_add, nI_clamp, ra_inI, true_and, forall_eq, nI_1]
            refine br_f (nI_ge hi (by omega)) ?_
            rw [ra_blk_s rfl]
            exact ih
          · rw [ra_blk_0] at h
            exact h
        | succ k ih =>
          intro i hi h2 n
          have q := ra_cl_n (h i (by omega))
          have b := ra_cl_b (x.2.2 i)
          rw [wY_prim_936]
          simp (disch := omega) only [ra_m32, nI_add, nI_clamp, ra_inI, true_and, forall_eq, nI_1]
          refine br_f (nI_ge (by omega) (by omega)) ?_
          rw [ha i (by omega)]
          by_cases g : (x.2.2 i).toNatClampNeg ≤ c
          · refine br_t (by rw [q]; exact nI_le g (by omega)) ?_
            have := ih (i + 1) (by omega) (fun j hj => by
              by_cases y : j = i
              · subst y; exact g
              · exact h2 j (by omega)) n
            rw [ra_prod, Nat.zero_add, ← pk_mul, ← q] at this
            exact this
          · have e : ra_PE c 10 x y = -4 := by
              have hbg : ra_big c x = true := by
                unfold ra_big
                exact ra_any_t _ i (by omega) (decide_eq_true (by rw [q]; exact nI_lt (by omega) b))
              rw [ra_PE10, if_neg hneg, if_pos (.inr (.inl hbg))]
            have := hp rk dm am (fun _ _ => ra_S_r) (fun z => absurd (e.symm.trans z) (by decide))
            rw [e] at this
            exact br_f (by rw [q]; exact nI_ge (by omega) b) this
      exact ⟨_, key2 (ra_cnt x) 0 (Nat.zero_add _) (fun j hj => absurd hj (Nat.not_lt_zero j)) 0⟩
    | succ k ih =>
      intro i hi h n
      rw [wY_prim_883]
      simp (disch := omega) only [ra_m32, nI_add, nI_clamp, ra_inI, true_and, forall_eq, nI_1]
      refine br_f (nI_ge (by omega) (by omega)) (br_f (by rw [ra_le32 (by omega)]; omega) ?_)
      rw [ha i (by omega)]
      by_cases g : x.2.2 i < 0
      · have e : ra_PE c 10 x y = -2 := by
          rw [ra_PE10, if_pos]
          exact ra_any_t _ i (by omega) (decide_eq_true g)
        have := hp rk dm am (fun _ _ => ra_S_r) (fun z => absurd (e.symm.trans z) (by decide))
        rw [e] at this
        exact br_f (Int32.not_le.mpr g) this
      · refine br_t (Int32.not_lt.mp g) (ih (i + 1) (by omega) (fun j hj => ?_) n)
        by_cases z : j = i
        · subst z; exact g
        · exact h j (by omega)
  have lp : ∃ n, wY_prim_883 post (nI sx) (nI sy) (nI t) (nI (ra_cnt y)) (nI (ra_cnt x)) (nI c) fv oa ol ov rk dm am lx ly lm lfx lfy lfr lp lk lc lf lM n 0 := ⟨_, key (ra_cnt x) 0 (Nat.zero_add _) (fun j hj => absurd hj (Nat.not_lt_zero j)) 0⟩
  unfold wY_prim_112 wY_prim_495
  refine br_f (by decide) (br_f (by decide) (br_f (by decide) (br_f (by decide) (br_f (by decide) (br_f (by decide) (br_f (by decide) (br_f (by decide) (br_f (by decide) (br_f (by decide) (?_))))))))))
  refine br_f (by decide) (br_f (by decide) (br_t rfl ?_))
  rw [nI_clamp (by omega), hx.1]
  refine ⟨vp_in_nI hsx (by decide), ?_⟩
  by_cases x0 : x.1 = 0
  · refine br_t (by rw [x0]; rfl) ?_
    rw [ra_cnt_r0 x0] at lp
    exact lp
  · refine br_f (nI_ne0 (by omega) (by omega)) ?_
    have e1 : ra_cnt x = x.2.1 0 := by
      unfold ra_cnt
      rw [show x.1 = 1 by omega]
      show 1 * x.2.1 (0 + 0) = x.2.1 0
      rw [Nat.one_mul]
    rw [ra_m3, nI_clamp (by omega), show dm (sx * 3) = nI (ra_cnt x) by rw [e1]; exact hx.2.1 0 (by omega)]
    exact ⟨vp_in_nI (by omega) (by decide), nm_e lp⟩
theorem ym_1339f {J1 J2 : Int32 → (Nat → Int32) → (Nat → Int32) → (Nat → Int32) → (Nat → Int32) → (Nat → Int32) → (Nat → Int32) → (Nat → Int32) → (Nat → Int32) → (Nat → Int32) → (Nat → Int32) → (Nat → Int32) → (Nat → Int32) → (Nat → Int32) → (Nat → Int32) → Prop} {a3 a6 a9 a11 a12 a13 a14 a16 : Int32} {i q : Nat} (ht : t < 11) (hq : q < 32)
    (hp : J2 (nI (i + 1)) rk dm (upd am (t * 32 + q) fv) lx ly lm lfx lfy lfr lp lk lc lf lM) : wY_prim_1338 post J1 J2 a3 (nI t) a6 a9 a11 a12 a13 a14 (nI i) a16 (nI q) (nI c) fv oa ol ov rk dm am lx ly lm lfx lfy lfr lp lk lc lf lM := by
  unfold wY_prim_1338 wY_prim_1339
  refine br_f (nI_pos (by omega)) (br_f (by rw [ra_le32 (by omega)]; omega) (br_t rfl ?_))
  simp (disch := omega) only [ra_m32, nI_add, nI_clamp, ra_inI, true_and, forall_eq, nI_1]
  exact hp
theorem ym_1155 {z0 : Int32} (h8 : 8 ≤ c) (hc : c ≤ 32) (hsy : sy < 11) (ht : t < 11) (hst : sy ≠ t) (hy : ra_H rk dm am sy y) (wy : ra_W c y) (hm : ra_abs (x.2.2 0) ≤ c) (ez : z0 = nI (ra_abs (x.2.2 0))) (hp : ∀ rk' dm' am', (∀ j, j ≠ t → ra_S rk dm am rk' dm' am' j) → (ra_PE c 11 x y = 0 → ra_H rk' dm' am' t (ra_PA fv 11 x y)) → post (ra_PE c 11 x y) (nI c, fv, oa, ol, ov, rk', dm', am', lx, ly, lm, lfx, lfy, lfr, lp, lk, lc, lf, lM))
 :
    wY_prim_1155 post (nI sy) (nI t) (x.2.2 0) (nI (ra_len y)) (nI (y.1 - 1)) (nI (ra_it y)) z0 (nI c) fv oa ol ov rk dm am lx ly lm lfx lfy lfr lp lk lc lf lM := by
  subst ez
  have y3 := wy.1
  have yc := wy.2.2
  rw [ra_cnt_li] at yc
  have ib := ra_it_le hc wy
  have lb := ra_len_le (by omega) wy
  have hb : ra_abs (x.2.2 0) * ra_it y ≤ 32 * 1024 := Nat.mul_le_mul (by omega) ib
  unfold wY_prim_1155
  rw [pk_mul]
  by_cases g : c < ra_abs (x.2.2 0) * ra_it y
  · have e : ra_PE c 11 x y = -4 := by rw [ra_PE11, if_pos (.inr g)]
    have := hp rk dm am (fun _ _ => ra_S_r) (fun z => absurd (e.symm.trans z) (by decide))
    rw [e] at this
    exact br_f (nI_ge g (by omega)) this
  have e : ra_PE c 11 x y = 0 := by rw [ra_PE11, if_neg (fun z => z.elim (fun z => by omega) g)]
  refine br_t (nI_le (by omega) (by omega)) ?_
  simp (disch := omega) only [ra_m3, nI_1, nI_clamp, ra_inI, true_and, forall_eq]
  have er : y.1 - 1 + 1 = if y.1 = 0 then 1 else y.1 := by split <;> omega
  have fin := hp (upd rk t (nI (y.1 - 1 + 1))) (ra_blk (upd dm (t * 3) (nI (ra_abs (x.2.2 0)))) (t * 3 + 1) (y.1 - 1) (fun i => dm (sy * 3 + 1 + i))) (ra_blk am (t * 32) (ra_abs (x.2.2 0) * ra_it y) (fun n => if ra_src (x.2.2 0) (ra_len y) (n / ra_it y) < ra_len y then am (sy * 32 + (ra_src (x.2.2 0) (ra_len y) (n / ra_it y) * ra_it y + n % ra_it y)) else fv))
    (fun j hj => ⟨pk_un hj, fun i hi => by rw [ra_blk_out (by omega), pk_un (by omega)], fun i hi => ra_blk_out (by omega)⟩) (fun _ =>
    ra_P11 hy (by rw [← er]; exact pk_us) (by rw [ra_blk_out (by omega)]; exact pk_us) (fun i h1 hi => by
      rw [show t * 3 + i = t * 3 + 1 + (i - 1) by omega, ra_blk_in (by omega), show sy * 3 + 1 + (i - 1) = sy * 3 + i by omega]
      exact hy.2.1 i hi) (fun n hn => ra_blk_in hn))
  rw [e] at fin
  generalize upd rk t (nI (y.1 - 1 + 1)) = rk2 at fin ⊢
  refine ra_loop0 (fun m i => wY_prim_1197 post (nI sy) (nI t) (x.2.2 0) (nI (ra_len y)) (nI (y.1 - 1)) (nI (ra_it y)) (nI (ra_abs (x.2.2 0))) (nI c) fv oa ol ov m (nI i) rk2 (ra_blk (upd dm (t * 3) (nI (ra_abs (x.2.2 0)))) (t * 3 + 1) i (fun i => dm (sy * 3 + 1 + i))) am lx ly lm lfx lfy lfr lp lk lc lf lM) (y.1 - 1) (fun m => ?_) (fun m i hi ih => ?_) (fun m h => ?_)
  · simp only [wY_prim_1197]
    refine br_t (nI_le (Nat.le_refl _) (by omega)) ?_
    generalize ra_blk (upd dm (t * 3) (nI (ra_abs (x.2.2 0)))) (t * 3 + 1) (y.1 - 1) (fun i => dm (sy * 3 + 1 + i)) = dm2 at fin ⊢
    refine ra_loop0 (fun m k => wY_prim_1246 post (nI sy) (nI t) (x.2.2 0) (nI (ra_len y)) (nI (ra_it y)) (nI (ra_abs (x.2.2 0))) (nI c) fv oa ol ov m (nI k) rk2 dm2 (ra_blk am (t * 32) (k * ra_it y) (fun n => if ra_src (x.2.2 0) (ra_len y) (n / ra_it y) < ra_len y then am (sy * 32 + (ra_src (x.2.2 0) (ra_len y) (n / ra_it y) * ra_it y + n % ra_it y)) else fv)) lx ly lm lfx lfy lfr lp lk lc lf lM) (ra_abs (x.2.2 0)) (fun m => ?_) (fun m k hk ih => ?_) (fun m h => ?_)
    · simp only [wY_prim_1246]
      exact br_t (nI_le (Nat.le_refl _) (by omega)) fin
    · have inner : ∀ a14 : Int32, (ra_src (x.2.2 0) (ra_len y) k < ra_len y → a14 = nI (ra_src (x.2.2 0) (ra_len y) k)) → (¬ ra_src (x.2.2 0) (ra_len y) k < ra_len y → a14 < 0 ∨ nI (ra_len y) ≤ a14) →
          ∃ n, wY_prim_1276 post (wY_prim_1246 post (nI sy) (nI t) (x.2.2 0) (nI (ra_len y)) (nI (ra_it y)) (nI (ra_abs (x.2.2 0))) (nI c) fv oa ol ov m) (nI sy) (nI t) (x.2.2 0) (nI (ra_len y)) (nI (ra_it y)) (nI (ra_abs (x.2.2 0))) (nI k) a14 (nI c) fv oa ol ov n 0 rk2 dm2 (ra_blk am (t * 32) (k * ra_it y) (fun n => if ra_src (x.2.2 0) (ra_len y) (n / ra_it y) < ra_len y then am (sy * 32 + (ra_src (x.2.2 0) (ra_len y) (n / ra_it y) * ra_it y + n % ra_it y)) else fv)) lx ly lm lfx lfy lfr lp lk lc lf lM := by
        intro a14 s1 s2
        refine ra_loop0 (fun m2 i => wY_prim_1276 post (wY_prim_1246 post (nI sy) (nI t) (x.2.2 0) (nI (ra_len y)) (nI (ra_it y)) (nI (ra_abs (x.2.2 0))) (nI c) fv oa ol ov m) (nI sy) (nI t) (x.2.2 0) (nI (ra_len y)) (nI (ra_it y)) (nI (ra_abs (x.2.2 0))) (nI k) a14 (nI c) fv oa ol ov m2 (nI i) rk2 dm2 (ra_blk am (t * 32) (k * ra_it y + i) (fun n => if ra_src (x.2.2 0) (ra_len y) (n / ra_it y) < ra_len y then am (sy * 32 + (ra_src (x.2.2 0) (ra_len y) (n / ra_it y) * ra_it y + n % ra_it y)) else fv)) lx ly lm lfx lfy lfr lp lk lc lf lM) (ra_it y) (fun m2 => ?_) (fun m2 i hi ih2 => ?_) (fun m2 h => ?_)
        · simp only [wY_prim_1276, nI_1, forall_eq]
          rw [Nat.succ_mul] at ih
          exact br_t (nI_le (Nat.le_refl _) (by omega)) ih
        · have b1 := ra_part (c := 32) hk (by omega) hi
          simp only [wY_prim_1276]
          refine br_f (nI_ge hi (by omega)) (br_f (by rw [ra_le32 (by omega)]; omega) (nm_e (nm_r (e' := nI (k * ra_it y + i)) (by rw [pk_mul, nI_add]) ?_)))
          by_cases g9 : ra_src (x.2.2 0) (ra_len y) k < ra_len y
          · have b2 := ra_part (c := 32) g9 (by omega) hi
            rw [s1 g9, pk_mul, nI_add]
            refine br_f (nI_pos (by omega)) (br_f (nI_ge g9 (by omega)) (br_f (nI_pos (by omega)) (br_f (by rw [ra_le32 (by omega)]; omega) ?_)))
            unfold wY_prim_1339
            refine br_f (nI_pos (by omega)) (br_f (by rw [ra_le32 (by omega)]; omega) (br_f (by decide) ?_))
            simp (disch := omega) only [ra_m32, nI_add, nI_clamp, ra_inI, true_and, forall_eq, nI_1]
            rw [s1 g9] at ih2
            rw [ra_blk_out (by omega), ra_blk_s (by rw [(ra_item hi).1, (ra_item hi).2, if_pos g9])]
            exact ih2
          · rcases s2 g9 with z | z
            · refine br_t z (ym_1339f ht b1 ?_)
              rw [ra_blk_s (by rw [(ra_item hi).1, if_neg g9])]
              exact ih2
            · refine br_c (fun _ => ym_1339f ht b1 ?_) (fun _ => br_t z (ym_1339f ht b1 ?_))
              · rw [ra_blk_s (by rw [(ra_item hi).1, if_neg g9])]
                exact ih2
              · rw [ra_blk_s (by rw [(ra_item hi).1, if_neg g9])]
                exact ih2
        · exact h
      simp only [wY_prim_1246]
      refine br_f (nI_ge hk (by omega)) ?_
      by_cases z : x.2.2 0 < 0
      · refine br_t z (nm_e (inner _ ?_ ?_))
        · intro g9
          by_cases z2 : ra_abs (x.2.2 0) ≤ ra_len y + k
          · rw [ra_src_n z z2]; exact ra_skip_p z2
          · rw [ra_src_x z z2] at g9; omega
        · intro g9
          by_cases z2 : ra_abs (x.2.2 0) ≤ ra_len y + k
          · rw [ra_src_n z z2] at g9; omega
          · exact .inl (ra_skip_n (by omega) (by omega))
      · refine br_f z (inner _ ?_ ?_)
        · intro _; rw [ra_src_p z]
        · intro g9; rw [ra_src_p z] at g9; exact .inr (nI_le (by omega) (by omega))
    · rw [Nat.zero_mul, ra_blk_0] at h
      exact h
  · simp (disch := omega) only [wY_prim_1197, ra_m3, nI_1, nI_add, nI_clamp, ra_inI, true_and, forall_eq]
    refine br_f (nI_ge hi (by omega)) (br_f (by rw [ra_le2 (by omega)]; omega) ?_)
    rw [ra_blk_out (by omega), pk_un (by omega), ra_blk_s rfl]
    exact ih
  · rw [ra_blk_0] at h
    exact h
theorem ym_p11 (h8 : 8 ≤ c) (hc : c ≤ 32) (hsy : sy < 11) (ht : t < 11) (hst : sy ≠ t) (hx0 : am (sx * 32) = x.2.2 0) (hy : ra_H rk dm am sy y) (wy : ra_W c y) (hp : ∀ rk' dm' am', (∀ j, j ≠ t → ra_S rk dm am rk' dm' am' j) → (ra_PE c 11 x y = 0 → ra_H rk' dm' am' t (ra_PA fv 11 x y)) → post (ra_PE c 11 x y) (nI c, fv, oa, ol, ov, rk', dm', am', lx, ly, lm, lfx, lfy, lfr, lp, lk, lc, lf, lM))
 : wY_prim_112 post 11 (nI sx) (nI sy) (nI t) (nI y.1) (am (sx * 32)) (am (sy * 32)) (nI (ra_cnt y)) (nI (ra_len y)) (nI (y.1 - 1)) (nI (ra_it y)) (nI c) fv oa ol ov rk dm am lx ly lm lfx lfy lfr lp lk lc lf lM
 := by
  have ab := ra_abs_c (z := x.2.2 0) (c := c) (by omega)
  unfold wY_prim_112 wY_prim_495
  refine br_f (by decide) (br_f (by decide) (br_f (by decide) (br_f (by decide) (br_f (by decide) (br_f (by decide) (br_f (by decide) (br_f (by decide) (br_f (by decide) (br_f (by decide) (?_))))))))))
  refine br_f (by decide) (br_f (by decide) (br_f (by decide) (br_t rfl ?_)))
  rw [hx0]
  by_cases g : c < ra_abs (x.2.2 0)
  · have e : ra_PE c 11 x y = -4 := by rw [ra_PE11, if_pos (.inl g)]
    have := hp rk dm am (fun _ _ => ra_S_r) (fun z => absurd (e.symm.trans z) (by decide))
    rw [e] at this
    rcases ab.mpr g with z | z
    · exact br_t z this
    · exact br_c (fun _ => this) (fun _ => br_f (Int32.not_le.mpr z) this)
  · refine br_f (fun z => g (ab.mp (.inl z))) (br_t (Int32.not_lt.mp fun z => g (ab.mp (.inr z))) ?_)
    by_cases z : x.2.2 0 < 0
    · exact br_f (Int32.not_le.mpr z) (ym_1155 h8 hc hsy ht hst hy wy (by omega) (ra_abs_n z (by omega)) hp)
    · exact br_t (Int32.not_lt.mp z) (ym_1155 h8 hc hsy ht hst hy wy (by omega) (ra_abs_p z) hp)
theorem ym_p12 (h8 : 8 ≤ c) (hc : c ≤ 32) (hsy : sy < 11) (ht : t < 11) (hst : sy ≠ t) (hx0 : am (sx * 32) = x.2.2 0) (hy : ra_H rk dm am sy y) (wy : ra_W c y) (hp : ∀ rk' dm' am', (∀ j, j ≠ t → ra_S rk dm am rk' dm' am' j) → (ra_PE c 12 x y = 0 → ra_H rk' dm' am' t (ra_PA fv 12 x y)) → post (ra_PE c 12 x y) (nI c, fv, oa, ol, ov, rk', dm', am', lx, ly, lm, lfx, lfy, lfr, lp, lk, lc, lf, lM))
 : wY_prim_112 post 12 (nI sx) (nI sy) (nI t) (nI y.1) (am (sx * 32)) (am (sy * 32)) (nI (ra_cnt y)) (nI (ra_len y)) (nI (y.1 - 1)) (nI (ra_it y)) (nI c) fv oa ol ov rk dm am lx ly lm lfx lfy lfr lp lk lc lf lM
 := by
  have y3 := wy.1
  have hd1 : ∀ i, i < y.1 - 1 → dm (sy * 3 + 1 + i) = nI (y.2.1 (1 + i)) := fun i hi => by
    rw [Nat.add_assoc]; exact hy.2.1 (1 + i) (by omega)
  have yc := wy.2.2
  rw [ra_cnt_li] at yc
  have ib := ra_it_le hc wy
  have lb := ra_len_le (by omega) wy
  have nl : (-nI (ra_len y)).toInt = -(ra_len y : Int) := sb_negT (by omega)
  unfold wY_prim_112 wY_prim_495
  refine br_f (by decide) (br_f (by decide) (br_f (by decide) (br_f (by decide) (br_f (by decide) (br_f (by decide) (br_f (by decide) (br_f (by decide) (br_f (by decide) (br_f (by decide) (?_))))))))))
  refine br_f (by decide) (br_f (by decide) (br_f (by decide) (br_f (by decide) ?_)))
  rw [hx0]
  by_cases a : x.2.2 0 < -nI (ra_len y)
  · have e : ra_PE c 12 x y = -3 := by
      rw [ra_PE12, if_pos (.inl (by rw [Int32.lt_iff_toInt_lt, nl] at a; exact a))]
    have := hp rk dm am (fun _ _ => ra_S_r) (fun z => absurd (e.symm.trans z) (by decide))
    rw [e] at this
    exact br_t a this
  refine br_f a ?_
  by_cases b : x.2.2 0 < nI (ra_len y)
  · refine br_t b ?_
    have e : ra_PE c 12 x y = 0 := by
      rw [ra_PE12, if_neg]
      rw [Int32.lt_iff_toInt_lt, nl] at a
      rw [Int32.lt_iff_toInt_lt, nI_toInt (by omega)] at b
      omega
    have hidx : ra_idx (x.2.2 0) (ra_len y) < ra_len y := by
      unfold ra_idx
      by_cases z : x.2.2 0 < 0
      · rw [if_pos z]; exact (ra_idx_n (by omega) z a).2
      · rw [if_neg z]
        rw [ra_abs_p z, nI_ltI (by unfold ra_abs; have := Int32.toInt_lt (x.2.2 0); have := Int32.le_toInt (x.2.2 0); rw [Int32.lt_iff_toInt_lt, ra_t0] at z; omega) (by omega)] at b
        exact b
    have mk : ∀ z : Int32, z = nI (ra_idx (x.2.2 0) (ra_len y)) → wY_prim_1437 post (nI sy) (nI t) (nI (y.1 - 1)) (nI (ra_it y)) z (nI c) fv oa ol ov rk dm am lx ly lm lfx lfy lfr lp lk lc lf lM := by
      intro z ez
      subst ez
      have i32 : ra_it y ≤ 32 := by
        have : (ra_idx (x.2.2 0) (ra_len y) + 1) * ra_it y ≤ ra_len y * ra_it y := Nat.mul_le_mul_right _ hidx
        rw [Nat.succ_mul] at this; omega
      have fin := hp (upd rk t (nI (y.1 - 1))) (ra_blk dm (t * 3) (y.1 - 1) (fun i => dm (sy * 3 + 1 + i))) (ra_blk am (t * 32) (ra_it y) (fun i => am (sy * 32 + (ra_idx (x.2.2 0) (ra_len y) * ra_it y + i))))
        (fun j hj => ra_S_blk (by omega) (by omega) hj) (fun _ =>
        ra_P12 hy hidx pk_us (fun i hi => (ra_blk_in hi).trans (hd1 i hi)) (fun i hi => ra_blk_in hi))
      rw [e] at fin
      unfold wY_prim_1437
      simp (disch := omega) only [nI_clamp, ra_inI, true_and, forall_eq]
      refine ra_loop0 (fun m i => wY_prim_1451 post (nI sy) (nI t) (nI (y.1 - 1)) (nI (ra_it y)) (nI (ra_idx (x.2.2 0) (ra_len y))) (nI c) fv oa ol ov m (nI i) (upd rk t (nI (y.1 - 1))) (ra_blk dm (t * 3) i (fun i => dm (sy * 3 + 1 + i))) am lx ly lm lfx lfy lfr lp lk lc lf lM) (y.1 - 1) (fun m => ?_) (fun m i hi ih => ?_) (fun m h => ?_)
      · simp only [wY_prim_1451]
        refine br_t (nI_le (Nat.le_refl _) (by omega)) ?_
        refine ra_loop0 (fun m i => wY_prim_1498 post (nI sy) (nI t) (nI (ra_it y)) (nI (ra_idx (x.2.2 0) (ra_len y))) (nI c) fv oa ol ov m (nI i) (upd rk t (nI (y.1 - 1))) (ra_blk dm (t * 3) (y.1 - 1) (fun i => dm (sy * 3 + 1 + i))) (ra_blk am (t * 32) i (fun i => am (sy * 32 + (ra_idx (x.2.2 0) (ra_len y) * ra_it y + i)))) lx ly lm lfx lfy lfr lp lk lc lf lM) (ra_it y) (fun m => ?_) (fun m i hi ih => ?_) (fun m h => ?_)
        · simp only [wY_prim_1498]
          exact br_t (nI_le (Nat.le_refl _) (by omega)) fin
        · have b1 := ra_part (c := 32) hidx (by omega) hi
          simp (disch := omega) only [wY_prim_1498, ra_m32, pk_mul, nI_add, nI_clamp, ra_inI, true_and, forall_eq, nI_1]
          refine br_f (nI_ge hi (by omega)) (br_f (by rw [ra_le32 (by omega)]; omega) (br_f (nI_pos (by omega)) (br_f (by rw [ra_le32 (by omega)]; omega) ?_)))
          rw [ra_blk_out (by omega), ra_blk_s rfl]
          exact ih
        · rw [ra_blk_0] at h
          exact h
      · simp (disch := omega) only [wY_prim_1451, ra_m3, nI_1, nI_add, nI_clamp, ra_inI, true_and, forall_eq]
        refine br_f (nI_ge hi (by omega)) (br_f (by rw [ra_le2 (by omega)]; omega) ?_)
        rw [ra_blk_out (by omega), ra_blk_s rfl]
        exact ih
      · rw [ra_blk_0] at h
        exact h
    by_cases z : x.2.2 0 < 0
    · refine br_f (Int32.not_le.mpr z) (mk _ ?_)
      unfold ra_idx
      rw [if_pos z]
      exact (ra_idx_n (by omega) z a).1
    · refine br_t (Int32.not_lt.mp z) (mk _ ?_)
      unfold ra_idx
      rw [if_neg z]
      exact ra_abs_p z
  · have e : ra_PE c 12 x y = -3 := by
      rw [ra_PE12, if_pos (.inr (by rw [Int32.lt_iff_toInt_lt, nI_toInt (by omega)] at b; omega))]
    have := hp rk dm am (fun _ _ => ra_S_r) (fun z => absurd (e.symm.trans z) (by decide))
    rw [e] at this
    exact br_f b this
theorem ym_prim {v : Nat} (hv : v ≤ 12) (h8 : 8 ≤ c) (hc : c ≤ 32) (hsx : sx < 11) (hsy : sy < 11) (ht : t < 11) (hxt : sx ≠ t) (hst : sy ≠ t) (hx : 6 ≤ v → ra_H rk dm am sx x) (hy : ra_H rk dm am sy y) (wx : ra_W c x) (wy : ra_W c y)
    (hfx : x.1 ≤ ra_dL v) (hfy : y.1 ≤ ra_dR v) (hp : ∀ rk' dm' am', (∀ j, j ≠ t → ra_S rk dm am rk' dm' am' j) → (ra_PE c v x y = 0 → ra_H rk' dm' am' t (ra_PA fv v x y)) → post (ra_PE c v x y) (nI c, fv, oa, ol, ov, rk', dm', am', lx, ly, lm, lfx, lfy, lfr, lp, lk, lc, lf, lM))
 : wpY_prim post (nI c, fv, oa, ol, ov, rk, dm, am, lx, ly, lm, lfx, lfy, lfr, lp, lk, lc, lf, lM) (nI v) (nI sx) (nI sy) (nI t) := by
  refine ym_head hsx hsy hy wy ?_
  have gx : x.1 = 0 → 6 ≤ v → am (sx * 32) = x.2.2 0 := fun h g => (hx g).2.2 0 (by rw [ra_cnt_r0 h]; decide)
  have gy : y.1 = 0 → am (sy * 32) = y.2.2 0 := fun h => hy.2.2 0 (by rw [ra_cnt_r0 h]; decide)
  match v, hv with
  | 0, _ => exact ym_p0 ht (gy (Nat.le_zero.mp hfy)) hp
  | 1, _ => exact ym_p1 hc ht (gy (Nat.le_zero.mp hfy)) hp
  | 2, _ => exact ym_p2 hc hsy ht hst hy wy hp
  | 3, _ => exact ym_p3 hc hsy ht hst hy wy hp
  | 4, _ => exact ym_p4 h8 hc hsy ht hst hy wy hp
  | 5, _ => exact ym_p5 hc hsy ht hst hy wy hp
  | 6, _ => exact ym_p6 ht (gy (Nat.le_zero.mp hfy)) (gx (Nat.le_zero.mp hfx) (by decide)) hp
  | 7, _ => exact ym_p7 ht (gy (Nat.le_zero.mp hfy)) (gx (Nat.le_zero.mp hfx) (by decide)) hp
  | 8, _ => exact ym_p8 ht (gy (Nat.le_zero.mp hfy)) (gx (Nat.le_zero.mp hfx) (by decide)) hp
  | 9, _ => exact ym_p9 ht (gy (Nat.le_zero.mp hfy)) (gx (Nat.le_zero.mp hfx) (by decide)) hp
  | 10, _ => exact ym_p10 h8 hc hsx hsy ht hxt hst (hx (by decide)) wx hfx hy wy hp
  | 11, _ => exact ym_p11 h8 hc hsy ht hst (gx (Nat.le_zero.mp hfx) (by decide)) hy wy hp
  | 12, _ => exact ym_p12 h8 hc hsy ht hst (gx (Nat.le_zero.mp hfx) (by decide)) hy wy hp
end
end
section
/-! the reference: a level's methods -/
section
variable {c : Nat} {fv oa ol ov : Int32} {rk dm am lx ly lm lfx lfy lfr lp lk lc lf lM : Nat → Int32}
theorem ym_setup {post : Int32 → SY → Prop} {L sx sy mon fx fy : Nat} {x y : ra_A} {l r : Int32} (hL : L < 2) (hc : c ≤ 32) (hsx : sx < 11) (hsy : sy < 11) (wx : ra_W c x) (wy : ra_W c y) (hm : mon ≤ 1)
    (hx : mon = 0 → ra_H rk dm am sx x) (hy : ra_H rk dm am sy y) (efx : mon = 0 → fx = x.1 - ra_eff l x.1) (ef0 : mon ≠ 0 → fx = 0) (efy : fy = y.1 - ra_eff r y.1)
    (h1 : ra_dis x y (if fx < fy then fx else fy) = true → ∀ rk' dm' am' lx' ly' lm' lfx' lfy' lfr' lp' lk' lc' lf' lM', (∀ N, N ≠ L → yv_E N lx ly lm lfx lfy lfr lp lk lc lf lM lx' ly' lm' lfx' lfy' lfr' lp' lk' lc' lf' lM') → rk' = rk → dm' = dm → am' = am → post (-1) (nI c, fv, oa, ol, ov, rk', dm', am', lx', ly', lm', lfx', lfy', lfr', lp', lk', lc', lf', lM'))
    (h2 : ra_dis x y (if fx < fy then fx else fy) = false → ∀ rk' dm' am' lx' ly' lm' lfx' lfy' lfr' lp' lk' lc' lf' lM', yv_V lx' ly' lm' lfx' lfy' lfr' lp' lf' L sx sy mon fx fy (ra_F x y fx fy) (ra_pos x y fx fy) →
      (∀ N, N ≠ L → yv_E N lx ly lm lfx lfy lfr lp lk lc lf lM lx' ly' lm' lfx' lfy' lfr' lp' lk' lc' lf' lM') → rk' = rk → dm' = dm → am' = am → post 0 (nI c, fv, oa, ol, ov, rk', dm', am', lx', ly', lm', lfx', lfy', lfr', lp', lk', lc', lf', lM')) :
    wpY_setup post (nI c, fv, oa, ol, ov, rk, dm, am, lx, ly, lm, lfx, lfy, lfr, lp, lk, lc, lf, lM) (nI L) (nI sx) (nI sy) l r (nI mon) := by
  have x3 := wx.1
  have y3 := wy.1
  have ey := ra_eff_le r y.1 (by omega)
  have ex := ra_eff_le l x.1 (by omega)
  have fx3 : fx ≤ 3 := by
    by_cases m : mon = 0
    · rw [efx m]; omega
    · rw [ef0 m]; omega
  have main : wY_setup_72 post (nI L) (nI sx) (nI sy) (nI fy) (nI fx) (nI c) fv oa ol ov rk dm am (upd lx L (nI sx)) (upd ly L (nI sy)) (upd lm L (nI mon)) lfx lfy lfr lp lk lc lf lM := by
    unfold wY_setup_72
    simp (disch := omega) only [nI_clamp, ra_inI, true_and, forall_eq]
    have fin : ra_dis x y (if fx < fy then fx else fy) = false → wY_setup_153 post (nI L) (nI sx) (nI sy) (nI fy) (nI fx) (nI c) fv oa ol ov rk dm am (upd lx L (nI sx)) (upd ly L (nI sy)) (upd lm L (nI mon)) (upd lfx L (nI fx)) (upd lfy L (nI fy)) lfr lp lk lc lf lM := by
      intro hdis
      have lp : ∀ big : Nat, big < 11 → (∀ i, i < ra_fr fx fy → dm (big * 3 + i) = nI (ra_F x y fx fy i)) → wY_setup_181 post (nI L) (nI big) (nI (ra_fr fx fy)) (nI c) fv oa ol ov rk dm am (upd lx L (nI sx)) (upd ly L (nI sy)) (upd lm L (nI mon)) (upd lfx L (nI fx)) (upd lfy L (nI fy)) lfr lp lk lc lf lM := by
        intro big hb hF
        have fr3 : ra_fr fx fy ≤ 3 := by unfold ra_fr; split <;> omega
        unfold wY_setup_181
        simp (disch := omega) only [nI_clamp, ra_inI, true_and, forall_eq]
        refine ra_loop0 (fun n i => wY_setup_197 post (nI L) (nI big) (nI (ra_fr fx fy)) (nI c) fv oa ol ov n (nI (ra_prod (ra_F x y fx fy) 0 i)) (nI i) rk dm am (upd lx L (nI sx)) (upd ly L (nI sy)) (upd lm L (nI mon)) (upd lfx L (nI fx)) (upd lfy L (nI fy)) (upd lfr L (nI (ra_fr fx fy))) lp lk lc (ra_blk lf (L * 3) i (fun i => nI (ra_F x y fx fy i))) lM) (ra_fr fx fy) (fun n => ?_) (fun n i hi ih => ?_) (fun n h => ?_)
        · simp (disch := omega) only [wY_setup_197, nI_clamp, ra_inI, true_and, forall_eq]
          refine br_t (nI_le (Nat.le_refl _) (by omega)) ?_
          exact h2 hdis _ _ _ _ _ _ _ _ _ _ _ _ _ _ ⟨pk_us, pk_us, pk_us, pk_us, pk_us, pk_us, pk_us, fun i hi => ra_blk_in hi⟩
            (fun N hN => ⟨pk_un hN, pk_un hN, pk_un hN, pk_un hN, pk_un hN, pk_un hN, pk_un hN, rfl, rfl, fun i hi => ra_blk_out (by omega), fun _ _ => rfl⟩) rfl rfl rfl
        · simp (disch := omega) only [wY_setup_197, ra_m3, nI_add, nI_clamp, ra_inI, true_and, forall_eq, nI_1, hF i hi, pk_mul]
          refine br_f (nI_ge hi (by omega)) (br_f (by rw [ra_le3 (by omega)]; omega) ?_)
          rw [ra_prod, Nat.zero_add] at ih
          rw [ra_blk_s rfl]
          exact ih
        · rw [ra_blk_0] at h
          exact h
      unfold wY_setup_153 wY_setup_165
      by_cases g : fy < fx
      · have m0 : mon = 0 := by
          by_cases m : mon = 0
          · exact m
          · have := ef0 m; omega
        refine br_f (nI_ge g (by omega)) (br_f (nI_ge g (by omega)) ?_)
        have := lp sx hsx (fun i hi => by
          unfold ra_fr at hi; unfold ra_F
          rw [if_pos g] at hi ⊢
          exact (hx m0).2.1 i (by have := efx m0; omega))
        unfold ra_fr at this
        rw [if_pos g] at this
        exact this
      · refine br_t (nI_le (by omega) (by omega)) (br_t (nI_le (by omega) (by omega)) ?_)
        have := lp sy hsy (fun i hi => by
          unfold ra_fr at hi; unfold ra_F
          rw [if_neg g] at hi ⊢
          exact hy.2.1 i (by omega))
        unfold ra_fr at this
        rw [if_neg g] at this
        exact this
    have loop : ∃ n, wY_setup_107 post (nI L) (nI sx) (nI sy) (nI fy) (nI fx) (nI (if fx < fy then fx else fy)) (nI c) fv oa ol ov rk dm am (upd lx L (nI sx)) (upd ly L (nI sy)) (upd lm L (nI mon)) (upd lfx L (nI fx)) (upd lfy L (nI fy)) lfr lp lk lc lf lM n 0 := by
      have hmm : (if fx < fy then fx else fy) ≤ fx ∧ (if fx < fy then fx else fy) ≤ fy := by split <;> omega
      generalize (if fx < fy then fx else fy) = m at hmm h1 fin
      have key : ∀ k i, i + k = m → (∀ j, j < i → x.2.1 j = y.2.1 j) → ∀ n, wY_setup_107 post (nI L) (nI sx) (nI sy) (nI fy) (nI fx) (nI m) (nI c) fv oa ol ov rk dm am (upd lx L (nI sx)) (upd ly L (nI sy)) (upd lm L (nI mon)) (upd lfx L (nI fx)) (upd lfy L (nI fy)) lfr lp lk lc lf lM (n + k + 1) (nI i) := by
        intro k
        induction k with
        | zero =>
          intro i hi h n
          have hi' : i = m := by omega
          subst hi'
          rw [wY_setup_107]
          exact br_t (nI_le (Nat.le_refl _) (by omega)) (fin (ra_any_f i (fun j hj => decide_eq_false (fun z => z (h j hj)))))
        | succ k ih =>
          intro i hi h n
          have m0 : mon = 0 := by
            by_cases m : mon = 0
            · exact m
            · have := ef0 m; omega
          have e0 := efx m0
          have xi := wx.2.1 i (by omega)
          have yi := wy.2.1 i (by omega)
          rw [wY_setup_107]
          simp (disch := omega) only [ra_m3, nI_add, nI_clamp, ra_inI, true_and, (hx m0).2.1 i (by omega), hy.2.1 i (by omega), forall_eq, nI_1]
          refine br_f (nI_ge (by omega) (by omega)) (br_f (by rw [ra_le3 (by omega)]; omega) ?_)
          by_cases g : x.2.1 i = y.2.1 i
          · refine br_t (by rw [g]) (ih (i + 1) (by omega) (fun j hj => ?_) n)
            by_cases z : j = i
            · subst z; exact g
            · exact h j (by omega)
          · exact br_f (fun z => g ((nI_eq (by omega) (by omega)).mp z)) (h1 (ra_any_t m i (by omega) (decide_eq_true g)) _ _ _ _ _ _ _ _ _ _ _ _ _ _
              (fun N hN => ⟨pk_un hN, pk_un hN, pk_un hN, pk_un hN, pk_un hN, rfl, rfl, rfl, rfl, fun _ _ => rfl, fun _ _ => rfl⟩) rfl rfl rfl)
      exact ⟨_, key m 0 (Nat.zero_add m) (fun j hj => absurd hj (Nat.not_lt_zero j)) 0⟩
    by_cases g : fx < fy
    · rw [if_pos g] at loop
      exact br_f (nI_ge g (by omega)) loop
    · rw [if_neg g] at loop
      exact br_t (nI_le (by omega) (by omega)) loop
  unfold wpY_setup
  dsimp only
  simp (disch := omega) only [nI_clamp, ra_inI, true_and, forall_eq, hy.1]
  refine ym_eff y3 ?_
  rw [show nI y.1 - nI (ra_eff r y.1) = nI fy by rw [efy]; exact pk_sub ey]
  by_cases m : mon = 0
  · refine br_t (by rw [m]; rfl) ?_
    rw [(hx m).1]
    refine ym_eff x3 ?_
    rw [show nI x.1 - nI (ra_eff l x.1) = nI fx by rw [efx m]; exact pk_sub ex]
    exact main
  · refine br_f (nI_ne0 (by omega) (by omega)) ?_
    rw [ef0 m] at main
    exact main
theorem ym_extract {post : SY → Prop} {L q sx sy mon fx fy dx dy : Nat} {x y : ra_A} (hL : L < 2) (hc : c ≤ 32) (hm : mon ≤ 1) (hV : yv_V lx ly lm lfx lfy lfr lp lf L sx sy mon fx fy (ra_F x y fx fy) (ra_pos x y fx fy))
    (hx : mon = 0 → ra_H rk dm am sx x) (hy : ra_H rk dm am sy y) (wx : ra_W c x) (wy : ra_W c y) (hfx : fx ≤ x.1) (hfy : fy ≤ y.1) (hd : ra_dis x y (if fx < fy then fx else fy) = false)
    (hq : q < ra_pos x y fx fy) (hsx : sx < 11) (hsy : sy < 11) (hdx : dx < 11) (hdy : dy < 11) (n1 : sx ≠ dx) (n2 : sy ≠ dx) (n3 : sy ≠ dy) (n4 : dx ≠ dy)
    (hp : ∀ rk' dm' am', (mon = 0 → ra_H rk' dm' am' dx (ra_cx x y fx fy q)) → ra_H rk' dm' am' dy (ra_cy x y fx fy q) → (∀ j, j ≠ dx → j ≠ dy → ra_S rk dm am rk' dm' am' j) → post (nI c, fv, oa, ol, ov, rk', dm', am', lx, ly, lm, lfx, lfy, lfr, lp, lk, lc, lf, lM)) :
    wpY_extract post (nI c, fv, oa, ol, ov, rk, dm, am, lx, ly, lm, lfx, lfy, lfr, lp, lk, lc, lf, lM) (nI L) (nI q) (nI dx) (nI dy) := by
  obtain ⟨v1, v2, v3, v4, v5, v6, v7, v8⟩ := hV
  have x3 := wx.1
  have y3 := wy.1
  have hpos := ra_pos_le hc wx wy hfx hfy
  have fr3 := ra_fr_3 wx wy hfx hfy
  have gx := ra_fr_x fx fy
  have gy := ra_fr_y fx fy
  have bx := ra_num_b (g := fx) hc wx wy hfx hfy
  have bY := ra_num_b (g := fy) hc wx wy hfx hfy
  have px := ra_num_pos gx hq
  have py := ra_num_pos gy hq
  have tail : ∀ rk1 dm1 am1, (mon = 0 → ra_H rk1 dm1 am1 dx (ra_cx x y fx fy q)) → (∀ j, j ≠ dx → ra_S rk dm am rk1 dm1 am1 j) → wY_extract_43 post (nI L) (nI q) (nI dy) (nI c) fv oa ol ov rk1 dm1 am1 lx ly lm lfx lfy lfr lp lk lc lf lM := by
    intro rk1 dm1 am1 h4 hS1
    unfold wY_extract_43
    simp (disch := omega) only [nI_clamp, ra_inI, true_and, v2, v5]
    refine ym_span hL v6 fr3 (by omega) v8 py (by omega) ⟨nI_ne0 py (by omega), ?_⟩
    rw [pk_div (by omega) py (by omega)]
    refine ym_cellOut hc wy (ra_H_S hy wy hc (hS1 sy n2)) hsy hdy n3 hfy (ra_numy hd hq) ?_
    intro rk2 dm2 am2 h6 hS2
    exact hp rk2 dm2 am2 (fun m => ra_H_S (h4 m) (ra_cx_W wx hfx hd hq) hc (hS2 _ n4)) h6 (fun j a b => ra_S_t (hS1 j a) (hS2 j b))
  unfold wpY_extract
  dsimp only
  simp (disch := omega) only [nI_clamp, ra_inI, true_and, v1, v3, v4]
  by_cases m : mon = 0
  · refine br_t (by rw [m]; rfl) ?_
    refine ym_span hL v6 fr3 (by omega) v8 px (by omega) ⟨nI_ne0 px (by omega), ?_⟩
    rw [pk_div (by omega) px (by omega)]
    refine ym_cellOut hc wx (hx m) hsx hdx n1 hfx (ra_numx hd hq) ?_
    intro rk1 dm1 am1 h4 hS1
    exact tail rk1 dm1 am1 (fun _ => h4) hS1
  · exact br_f (nI_ne0 (by omega) (by omega)) (tail rk dm am (fun z => absurd z m) (fun _ _ => ra_S_r))
theorem ym_eo14 {post : Int32 → SY → Prop} {L r K o zs : Nat} {F G : Nat → Nat} {zz : Int32} (hL : L < 2) (ho : o < 11) (r3 : r ≤ 3) (k3 : K ≤ 3) (v6 : lfr L = nI r) (v8 : ∀ i, i < r → lf (L * 3 + i) = nI (F i))
    (hz : 0 < K → zz = nI zs ∧ zs < 11 ∧ zs ≠ o ∧ ∀ i, i < K → dm (zs * 3 + i) = nI (G i))
    (h1 : 3 < r + K → post (-4) (nI c, fv, oa, ol, ov, rk, dm, am, lx, ly, lm, lfx, lfy, lfr, lp, lk, lc, lf, lM))
    (h2 : r + K ≤ 3 → ∀ rk' dm', rk' o = nI (r + K) → (∀ i, i < r + K → dm' (o * 3 + i) = nI (if i < r then F i else G (i - r))) → (∀ j, j ≠ o → ra_S rk dm am rk' dm' am j) → post 0 (nI c, fv, oa, ol, ov, rk', dm', am, lx, ly, lm, lfx, lfy, lfr, lp, lk, lc, lf, lM)) :
    wY_emptyOut_14 post (nI L) zz (nI o) (nI K) (nI c) fv oa ol ov rk dm am lx ly lm lfx lfy lfr lp lk lc lf lM := by
  unfold wY_emptyOut_14
  simp (disch := omega) only [nI_clamp, ra_inI, true_and, forall_eq, v6, nI_add]
  by_cases h3 : r + K ≤ 3
  · refine br_t (by rw [ra_gt3 (by omega)]; exact h3) ?_
    refine ra_loop0 (fun n i => wY_emptyOut_50 post (nI L) zz (nI o) (nI K) (nI r) (nI c) fv oa ol ov n (nI i) (upd rk o (nI (r + K))) (ra_blk dm (o * 3) i (fun i => nI (if i < r then F i else G (i - r)))) am lx ly lm lfx lfy lfr lp lk lc lf lM) r (fun n => ?_) (fun n i hi ih => ?_) (fun n h => ?_)
    · simp only [wY_emptyOut_50]
      refine br_t (nI_le (Nat.le_refl _) (by omega)) ?_
      refine ra_loop0 (fun n i => wY_emptyOut_94 post zz (nI o) (nI K) (nI r) (nI c) fv oa ol ov n (nI i) (upd rk o (nI (r + K))) (ra_blk dm (o * 3) (r + i) (fun i => nI (if i < r then F i else G (i - r)))) am lx ly lm lfx lfy lfr lp lk lc lf lM) K (fun n => ?_) (fun n i hi ih => ?_) (fun n h => ?_)
      · simp only [wY_emptyOut_94]
        exact br_t (nI_le (Nat.le_refl _) (by omega)) (h2 h3 _ _ pk_us (fun i hi => ra_blk_in hi) (fun j hj => ⟨pk_un hj, fun i hi => ra_blk_out (by omega), fun _ _ => rfl⟩))
      · obtain ⟨e1, e2, e3, e4⟩ := hz (by omega)
        subst e1
        simp (disch := omega) only [wY_emptyOut_94, ra_m3, nI_add, nI_clamp, ra_inI, true_and, forall_eq, nI_1]
        refine br_f (nI_ge hi (by omega)) (br_f (by rw [ra_le3 (by omega)]; omega) ?_)
        rw [ra_blk_out (by omega), e4 i hi, Nat.add_assoc (o * 3), ra_blk_s (by
          show nI (G i) = nI (if r + i < r then F (r + i) else G (r + i - r))
          rw [if_neg (by omega), Nat.add_sub_cancel_left])]
        exact ih
      · exact h
    · simp (disch := omega) only [wY_emptyOut_50, ra_m3, nI_add, nI_clamp, ra_inI, true_and, forall_eq, nI_1, v8 i hi]
      refine br_f (nI_ge hi (by omega)) (br_f (by rw [ra_le3 (by omega)]; omega) ?_)
      rw [ra_blk_s (by rw [if_pos hi])]
      exact ih
    · rw [ra_blk_0] at h
      exact h
  · exact br_f (by rw [ra_gt3 (by omega)]; exact h3) (h1 (by omega))
theorem ym_prep0 {post : Int32 → SY → Prop} {L o : Nat} (hL : L < 2) (hp : post 0 (nI c, fv, oa, ol, ov, rk, dm, am, lx, ly, lm, lfx, lfy, lfr, lp, upd lk L 0, lc, lf, lM)) : wpY_prep post (nI c, fv, oa, ol, ov, rk, dm, am, lx, ly, lm, lfx, lfy, lfr, lp, lk, lc, lf, lM) (nI L) 0 (nI o) := by
  unfold wpY_prep wY_prep_11 wY_prep_43
  dsimp only
  refine br_t rfl ⟨vp_in_nI hL (by decide), nm_e ?_⟩
  rw [nI_clamp (by omega)]
  exact br_f (by decide) (br_f (by decide) hp)
theorem ym_prep1 {post : Int32 → SY → Prop} {L o : Nat} (hL : L < 2) (hp : post 0 (nI c, fv, oa, ol, ov, rk, dm, am, lx, ly, lm, lfx, lfy, lfr, lp, lk, lc, lf, ra_blk lM (L * 3) 3 (fun _ => 0))) : wpY_prep post (nI c, fv, oa, ol, ov, rk, dm, am, lx, ly, lm, lfx, lfy, lfr, lp, lk, lc, lf, lM) (nI L) 1 (nI o) := by
  unfold wpY_prep wY_prep_11
  dsimp only
  refine br_f (by decide) (br_t rfl ?_)
  refine ra_loop0 (fun n i => wY_prep_19 post (nI L) 1 (nI o) (nI c) fv oa ol ov n (nI i) rk dm am lx ly lm lfx lfy lfr lp lk lc lf (ra_blk lM (L * 3) i (fun _ => 0))) 3 (fun n => ?_) (fun n i hi ih => ?_) (fun n h => ?_)
  · simp only [wY_prep_19]
    unfold wY_prep_43
    exact br_t (by decide) (br_f (by decide) hp)
  · simp (disch := omega) only [wY_prep_19, ra_m3, nI_add, nI_clamp, ra_inI, true_and, forall_eq, nI_1]
    refine br_f (by rw [ra_le3 (by omega)]; omega) ?_
    rw [ra_blk_s rfl]
    exact ih
  · rw [ra_blk_0] at h
    exact h
theorem ym_prep2 {post : Int32 → SY → Prop} {L o r K P : Nat} {F m : Nat → Nat} (hL : L < 2) (ho : o < 11) (hc : c ≤ 32) (r3 : r ≤ 3) (k3 : K ≤ 3) (hP : P ≤ 32768) (m32 : ∀ i, i < K → m i ≤ c)
    (v6 : lfr L = nI r) (v7 : lp L = nI P) (v8 : ∀ i, i < r → lf (L * 3 + i) = nI (F i)) (vK : lk L = nI K) (vM : ∀ i, i < K → lM (L * 3 + i) = nI (m i))
    (h1 : 3 < r + K → post (-4) (nI c, fv, oa, ol, ov, rk, dm, am, lx, ly, lm, lfx, lfy, lfr, lp, lk, lc, lf, lM)) (h2 : c < P * ra_prod m 0 K → ∀ lc', (∀ N, N ≠ L → lc' N = lc N) → post (-4) (nI c, fv, oa, ol, ov, rk, dm, am, lx, ly, lm, lfx, lfy, lfr, lp, lk, lc', lf, lM))
    (h3 : r + K ≤ 3 → P * ra_prod m 0 K ≤ c → ∀ rk' dm' lc', lc' L = nI (ra_prod m 0 K) → (∀ N, N ≠ L → lc' N = lc N) → rk' o = nI (r + K) → (∀ i, i < r + K → dm' (o * 3 + i) = nI (if i < r then F i else m (i - r))) → (∀ j, j ≠ o → ra_S rk dm am rk' dm' am j) → post 0 (nI c, fv, oa, ol, ov, rk', dm', am, lx, ly, lm, lfx, lfy, lfr, lp, lk, lc', lf, lM)) :
    wpY_prep post (nI c, fv, oa, ol, ov, rk, dm, am, lx, ly, lm, lfx, lfy, lfr, lp, lk, lc, lf, lM) (nI L) 2 (nI o) := by
  have mc32 : ra_prod m 0 K ≤ 32768 := Nat.le_trans (ra_prod_le (b := 32) _ (fun i hi => by rw [Nat.zero_add]; exact Nat.le_trans (m32 i hi) hc)) (ra_p32 k3)
  have pb : P * ra_prod m 0 K ≤ 32768 * 32768 := Nat.mul_le_mul hP mc32
  unfold wpY_prep wY_prep_11 wY_prep_43
  dsimp only
  refine br_f (by decide) (br_f (by decide) (br_t rfl ?_))
  simp (disch := omega) only [nI_clamp, ra_inI, true_and, forall_eq, v6, vK, nI_add]
  by_cases g3 : r + K ≤ 3
  · refine br_t (by rw [ra_gt3 (by omega)]; exact g3) ?_
    refine ra_loop (fun n i => wY_prep_84 post (nI L) (nI o) (nI K) (nI r) (nI c) fv oa ol ov rk dm am lx ly lm lfx lfy lfr lp lk lc lf lM n (nI (ra_prod m 0 i)) (nI i)) K (fun n => ?_) (fun n i hi ih => ?_) 0 (Nat.zero_le _)
    · simp only [wY_prep_84]
      refine br_t (nI_le (Nat.le_refl _) (by omega)) ?_
      unfold wY_prep_119
      simp (disch := omega) only [nI_clamp, ra_inI, true_and, forall_eq, v7, pk_mul, nI_add]
      by_cases gc : P * ra_prod m 0 K ≤ c
      · refine br_t (nI_le gc (by omega)) ?_
        refine ra_loop0 (fun n i => wY_prep_160 post (nI L) (nI o) (nI K) (nI r) (nI c) fv oa ol ov n (nI i) (upd rk o (nI (r + K))) (ra_blk dm (o * 3) i (fun i => nI (if i < r then F i else m (i - r)))) am lx ly lm lfx lfy lfr lp lk (upd lc L (nI (ra_prod m 0 K))) lf lM) r (fun n => ?_) (fun n i hi ih => ?_) (fun n h => ?_)
        · simp only [wY_prep_160]
          refine br_t (nI_le (Nat.le_refl _) (by omega)) ?_
          refine ra_loop0 (fun n i => wY_prep_204 post (nI L) (nI o) (nI K) (nI r) (nI c) fv oa ol ov n (nI i) (upd rk o (nI (r + K))) (ra_blk dm (o * 3) (r + i) (fun i => nI (if i < r then F i else m (i - r)))) am lx ly lm lfx lfy lfr lp lk (upd lc L (nI (ra_prod m 0 K))) lf lM) K (fun n => ?_) (fun n i hi ih => ?_) (fun n h => ?_)
          · simp only [wY_prep_204]
            exact br_t (nI_le (Nat.le_refl _) (by omega)) (h3 g3 gc _ _ _ pk_us (fun N hN => pk_un hN) pk_us (fun i hi => ra_blk_in hi) (fun j hj => ⟨pk_un hj, fun i hi => ra_blk_out (by omega), fun _ _ => rfl⟩))
          · simp (disch := omega) only [wY_prep_204, ra_m3, nI_add, nI_clamp, ra_inI, true_and, forall_eq, nI_1, vM i hi]
            refine br_f (nI_ge hi (by omega)) (br_f (by rw [ra_le3 (by omega)]; omega) ?_)
            rw [Nat.add_assoc (o * 3), ra_blk_s (by
              show nI (m i) = nI (if r + i < r then F (r + i) else m (r + i - r))
              rw [if_neg (by omega), Nat.add_sub_cancel_left])]
            exact ih
          · exact h
        · simp (disch := omega) only [wY_prep_160, ra_m3, nI_add, nI_clamp, ra_inI, true_and, forall_eq, nI_1, v8 i hi]
          refine br_f (nI_ge hi (by omega)) (br_f (by rw [ra_le3 (by omega)]; omega) ?_)
          rw [ra_blk_s (by rw [if_pos hi])]
          exact ih
        · rw [ra_blk_0] at h
          exact h
      · exact br_f (nI_ge (by omega) (by omega)) (h2 (by omega) _ (fun N hN => pk_un hN))
    · simp (disch := omega) only [wY_prep_84, ra_m3, nI_add, nI_clamp, ra_inI, true_and, forall_eq, nI_1, vM i hi, pk_mul]
      refine br_f (nI_ge hi (by omega)) (br_f (by rw [ra_le3 (by omega)]; omega) ?_)
      rw [ra_prod, Nat.zero_add] at ih
      exact ih
  · exact br_f (by rw [ra_gt3 (by omega)]; exact g3) (h1 (by omega))
end
end
section
/-! the reference: absorb -/
section
variable {c : Nat} {fv oa ol ov : Int32} {rk dm am lx ly lm lfx lfy lfr lp lk lc lf lM : Nat → Int32}
theorem ym_absorb0 {post : SY → Prop} {L K zs : Nat} {z : ra_A} {q o : Int32} (hL : L < 2) (hz : zs < 11) (k3 : K ≤ 3) (z3 : z.1 ≤ 3) (vK : lk L = nI K) (h : ra_H rk dm am zs z)
    (hp : ∀ lk', lk' L = nI (if K < z.1 then z.1 else K) → (∀ N, N ≠ L → lk' N = lk N) → post (nI c, fv, oa, ol, ov, rk, dm, am, lx, ly, lm, lfx, lfy, lfr, lp, lk', lc, lf, lM)) : wpY_absorb post (nI c, fv, oa, ol, ov, rk, dm, am, lx, ly, lm, lfx, lfy, lfr, lp, lk, lc, lf, lM) (nI L) 0 q (nI zs) o := by
  unfold wpY_absorb
  dsimp only
  simp (disch := omega) only [nI_clamp, ra_inI, true_and, forall_eq, vK, h.1]
  refine br_t True.intro ?_
  by_cases g : K < z.1
  · exact br_f (nI_ge g (by omega)) (hp _ (by rw [pk_us, if_pos g]) (fun N hN => pk_un hN))
  · exact br_t (nI_le (by omega) (by omega)) (hp lk (by rw [vK, if_neg g]) (fun _ _ => rfl))
theorem ym_absorb1 {post : SY → Prop} {L K zs : Nat} {m : Nat → Nat} {z : ra_A} {q o : Int32} (hL : L < 2) (hz : zs < 11) (hc : c ≤ 32) (h1 : 1 ≤ c) (k3 : K ≤ 3) (zK : z.1 ≤ K) (vK : lk L = nI K) (h : ra_H rk dm am zs z) (wz : ra_W c z)
    (m32 : ∀ i, i < K → m i ≤ c) (vM : ∀ i, i < K → lM (L * 3 + i) = nI (m i))
    (hp : ∀ lM', (∀ i, i < K → lM' (L * 3 + i) = nI (if m i < ra_lift z (i + (3 - K)) then ra_lift z (i + (3 - K)) else m i)) → (∀ N, N ≠ L → ∀ i, i < 3 → lM' (N * 3 + i) = lM (N * 3 + i)) → post (nI c, fv, oa, ol, ov, rk, dm, am, lx, ly, lm, lfx, lfy, lfr, lp, lk, lc, lf, lM')) :
    wpY_absorb post (nI c, fv, oa, ol, ov, rk, dm, am, lx, ly, lm, lfx, lfy, lfr, lp, lk, lc, lf, lM) (nI L) 1 q (nI zs) o := by
  unfold wpY_absorb
  dsimp only
  rw [nI_clamp (by omega), vK]
  refine ⟨vp_in_nI hL (by decide), nm_e (br_f (by decide) (br_t rfl ?_))⟩
  refine ra_loop0 (fun n i => wY_absorb_46 post (nI L) (nI zs) (nI K) (nI c) fv oa ol ov n (nI i) rk dm am lx ly lm lfx lfy lfr lp lk lc lf (ra_blk lM (L * 3) i (fun i => nI (if m i < ra_lift z (i + (3 - K)) then ra_lift z (i + (3 - K)) else m i)))) K (fun n => ?_) (fun n i hi ih => ?_) (fun n h => ?_)
  · simp only [wY_absorb_46]
    exact br_t (nI_le (Nat.le_refl _) (by omega)) (hp _ (fun i hi => ra_blk_in hi) (fun N hN i hi => ra_blk_out (by omega)))
  · have l32 := ra_lift_le wz h1 (show i + (3 - K) < 3 by omega)
    have v32 := m32 i hi
    simp (disch := omega) only [wY_absorb_46, ra_m3, nI_add, nI_clamp, ra_inI, true_and, forall_eq, nI_1]
    refine br_f (nI_ge hi (by omega)) (br_f (by rw [ra_le3 (by omega)]; omega) ?_)
    refine ym_lifted hz k3 zK h hi ?_
    rw [ra_blk_out (by omega), vM i hi]
    by_cases g : m i < ra_lift z (i + (3 - K))
    · refine br_f (nI_ge g (by omega)) ?_
      rw [ra_blk_s (by rw [if_pos g])]
      exact ih
    · refine br_t (nI_le (by omega) (by omega)) ?_
      have e : ra_blk lM (L * 3) (i + 1) (fun i => nI (if m i < ra_lift z (i + (3 - K)) then ra_lift z (i + (3 - K)) else m i)) = ra_blk lM (L * 3) i (fun i => nI (if m i < ra_lift z (i + (3 - K)) then ra_lift z (i + (3 - K)) else m i)) := funext fun j => by
        by_cases y : j = L * 3 + i
        · subst y
          rw [ra_blk_in (Nat.lt_succ_self i), ra_blk_out (by omega), if_neg g, vM i hi]
        · by_cases u : L * 3 ≤ j ∧ j < L * 3 + i
          · obtain ⟨k, rfl⟩ : ∃ k, j = L * 3 + k := ⟨j - L * 3, by omega⟩
            rw [ra_blk_in (by omega), ra_blk_in (by omega)]
          · rw [ra_blk_out (by omega), ra_blk_out (by omega)]
      rw [e] at ih
      exact ih
  · rw [ra_blk_0] at h
    exact h
/-- the end of the taking apart -/
theorem ym_151x {post : SY → Prop} {J : Int32 → (Nat → Int32) → (Nat → Int32) → (Nat → Int32) → (Nat → Int32) → (Nat → Int32) → (Nat → Int32) → (Nat → Int32) → (Nat → Int32) → (Nat → Int32) → (Nat → Int32) → (Nat → Int32) → (Nat → Int32) → (Nat → Int32) → (Nat → Int32) → Prop}
    {a1 a6 a9 a11 inn a13 val : Int32} {q zs o M u s n : Nat} (hz : zs < 11) (ho : o < 11) (hq : q * M + u < 32) (h13 : a13 < 0)
    (hv : (inn = 0 ∧ val = fv) ∨ (inn ≠ 0 ∧ s < 32 ∧ val = am (zs * 32 + s)))
    (hp : J (nI (u + 1)) rk dm (upd am (o * 32 + (q * M + u)) val) lx ly lm lfx lfy lfr lp lk lc lf lM) : wY_absorb_151 post J a1 (nI q) (nI zs) (nI o) a6 (nI M) (nI u) (nI c) fv oa ol ov rk dm am lx ly lm lfx lfy lfr lp lk lc lf lM (n + 1) a9 (nI s) a11 inn a13 := by
  rw [wY_absorb_151]
  refine br_t h13 ?_
  rw [pk_mul, nI_add]
  refine nm_e (br_f (nI_pos (by omega)) (br_f (by rw [ra_le32 (by omega)]; omega) ?_))
  rcases hv with ⟨i0, rfl⟩ | ⟨i0, hs, rfl⟩
  · refine br_t i0 ?_
    simp (disch := omega) only [ra_m32, nI_add, nI_clamp, ra_inI, true_and, forall_eq, nI_1]
    exact hp
  · refine br_f i0 (br_f (nI_pos (by omega)) (br_f (by rw [ra_le32 (by omega)]; omega) ?_))
    simp (disch := omega) only [ra_m32, nI_add, nI_clamp, ra_inI, true_and, forall_eq, nI_1]
    exact hp
/-- one axis taken off -/
theorem ym_151s {post : SY → Prop} {J : Int32 → (Nat → Int32) → (Nat → Int32) → (Nat → Int32) → (Nat → Int32) → (Nat → Int32) → (Nat → Int32) → (Nat → Int32) → (Nat → Int32) → (Nat → Int32) → (Nat → Int32) → (Nat → Int32) → (Nat → Int32) → (Nat → Int32) → (Nat → Int32) → Prop}
    {a3 a5 a7 a8 inn : Int32} {L K zs i Mi rr s m n : Nat} {z : ra_A} (hL : L < 2) (hz : zs < 11) (k3 : K ≤ 3) (zK : z.1 ≤ K) (h : ra_H rk dm am zs z) (hi : i < K) (vM : lM (L * 3 + i) = nI Mi) (p : 0 < Mi) (hM : Mi < 2 ^ 31) (hr : rr < 2 ^ 31) (hl : ra_lift z (i + (3 - K)) < 2 ^ 31)
    (hp : wY_absorb_151 post J (nI L) a3 (nI zs) a5 (nI K) a7 a8 (nI c) fv oa ol ov rk dm am lx ly lm lfx lfy lfr lp lk lc lf lM n (nI (rr / Mi)) (nI (s + rr % Mi * m)) (nI (m * ra_lift z (i + (3 - K)))) (if rr % Mi < ra_lift z (i + (3 - K)) then inn else 0) (nI i + (-1))) :
    wY_absorb_151 post J (nI L) a3 (nI zs) a5 (nI K) a7 a8 (nI c) fv oa ol ov rk dm am lx ly lm lfx lfy lfr lp lk lc lf lM (n + 1) (nI rr) (nI s) (nI m) inn (nI i) := by
  have hm := Nat.mod_lt rr p
  rw [wY_absorb_151]
  refine br_f (nI_pos (by omega)) ?_
  simp (disch := omega) only [ra_m3, nI_add, nI_clamp, ra_inI, true_and, forall_eq, vM]
  refine br_f (nI_nle p hM) ⟨nI_ne0 p hM, nI_ne0 p hM, ?_⟩
  rw [pk_rem hr p hM, pk_div hr p hM]
  unfold wY_absorb_191
  refine ym_lifted hz k3 zK h hi ?_
  unfold wY_absorb_213
  by_cases g : rr % Mi < ra_lift z (i + (3 - K))
  · rw [if_pos g] at hp
    refine br_t (nI_lt g hl) ?_
    simp only [pk_mul, nI_add, forall_eq]
    exact hp
  · rw [if_neg g] at hp
    refine br_f (nI_nlt (by omega) (by omega)) ?_
    simp only [pk_mul, nI_add, forall_eq]
    exact hp
end
end
section
/-! the reference: placing -/
section
variable {c : Nat} {fv oa ol ov : Int32} {rk dm am lx ly lm lfx lfy lfr lp lk lc lf lM : Nat → Int32}
theorem ym_151 {post : SY → Prop} {J : Int32 → (Nat → Int32) → (Nat → Int32) → (Nat → Int32) → (Nat → Int32) → (Nat → Int32) → (Nat → Int32) → (Nat → Int32) → (Nat → Int32) → (Nat → Int32) → (Nat → Int32) → (Nat → Int32) → (Nat → Int32) → (Nat → Int32) → (Nat → Int32) → Prop}
    {L K q zs o M u : Nat} {w : Nat → Nat} {z : ra_A} (hL : L < 2) (hz : zs < 11) (ho : o < 11) (hc : c ≤ 32) (h1 : 1 ≤ c) (k3 : K ≤ 3) (zK : z.1 ≤ K) (h : ra_H rk dm am zs z) (wz : ra_W c z)
    (w32 : ∀ j, j < 3 → w j ≤ c) (w1 : ∀ j, j < 3 - K → w j = 1) (vM : ∀ i, i < K → lM (L * 3 + i) = nI (w (i + (3 - K)))) (hu : u < w 0 * w 1 * w 2) (hq : q * M + u < 32)
    (hp : J (nI (u + 1)) rk dm (upd am (o * 32 + (q * M + u)) (ra_pl fv (w 1) (w 2) z u)) lx ly lm lfx lfy lfr lp lk lc lf lM) :
    ∃ n, wY_absorb_151 post J (nI L) (nI q) (nI zs) (nI o) (nI K) (nI M) (nI u) (nI c) fv oa ol ov rk dm am lx ly lm lfx lfy lfr lp lk lc lf lM n (nI u) 0 1 1 (nI K - 1) := by
  have z3 := wz.1
  have cc := wz.2.2
  have a0 := w32 0 (by decide)
  have a1 := w32 1 (by decide)
  have a2 := w32 2 (by decide)
  have l0 := ra_lift_le wz h1 (j := 0) (by decide)
  have l1 := ra_lift_le wz h1 (j := 1) (by decide)
  have l2 := ra_lift_le wz h1 (j := 2) (by decide)
  have hin : ∀ i j k, i < ra_lift z 0 → j < ra_lift z 1 → k < ra_lift z 2 → (i * ra_lift z 1 + j) * ra_lift z 2 + k < ra_cnt z := fun i j k hi hj hk => by
    rw [← ra_lift_p z3]; exact ra_in3 hi hj hk
  have p2 : 0 < w 2 := by
    cases Nat.eq_zero_or_pos (w 2) with
    | inl e => rw [e, Nat.mul_zero] at hu; omega
    | inr e => exact e
  have p01 : 0 < w 0 * w 1 := by
    cases Nat.eq_zero_or_pos (w 0 * w 1) with
    | inl e => rw [e, Nat.zero_mul] at hu; omega
    | inr e => exact e
  have p1 : 0 < w 1 := Nat.pos_of_mul_pos_left p01
  have p0 : 0 < w 0 := Nat.pos_of_mul_pos_right p01
  have u31 : u < 2 ^ 31 := by omega
  have e1 : u / w 2 < 2 ^ 31 := Nat.lt_of_le_of_lt (Nat.div_le_self _ _) u31
  have e2 : u / w 2 / w 1 < 2 ^ 31 := Nat.lt_of_le_of_lt (Nat.div_le_self _ _) e1
  match K, k3, zK, w1, vM with
  | 0, _, zK, w1, vM =>
    have b0 := w1 0 (by decide)
    have b1 := w1 1 (by decide)
    have b2 := w1 2 (by decide)
    have u0 : u = 0 := by rw [b0, b1, b2] at hu; omega
    refine ⟨1, ym_151x (s := 0) (val := ra_pl fv (w 1) (w 2) z u) hz ho hq (by decide) (.inr ⟨by decide, by decide, ?_⟩) hp⟩
    rw [b1, b2, u0, ra_pl_0 (Nat.le_zero.mp zK)]
    exact (h.2.2 0 (by rw [ra_cnt_r0 (Nat.le_zero.mp zK)]; decide)).symm
  | 1, k3, zK, w1, vM =>
    have b0 := w1 0 (by decide)
    have b1 := w1 1 (by decide)
    have hu2 : u < w 2 := by rw [b0, b1] at hu; omega
    have c0 : ra_lift z 0 = 1 := by unfold ra_lift; rw [if_pos (by omega)]
    have c1 : ra_lift z 1 = 1 := by unfold ra_lift; rw [if_pos (by omega)]
    refine ⟨2, ?_⟩
    rw [show nI 1 - 1 = nI 0 from pk_sub (a := 1) (b := 1) (by decide)]
    refine ym_151s (i := 0) (Mi := w 2) (rr := u) (s := 0) (m := 1) hL hz k3 zK h (by decide) (vM 0 (by decide)) p2 (by omega) u31 (by show ra_lift z 2 < 2 ^ 31; omega) ?_
    refine ym_151x (val := ra_pl fv (w 1) (w 2) z u) hz ho hq (by decide) ?_ hp
    rw [b1, ra_pl_1 zK hu2]
    by_cases g : u % w 2 < ra_lift z 2
    · have bd := hin 0 0 (u % w 2) (by omega) (by omega) g
      rw [if_pos g, if_pos (show u % w 2 < ra_lift z (0 + (3 - 1)) from g)]
      refine .inr ⟨by decide, by omega, ?_⟩
      rw [Nat.zero_add, Nat.mul_one]
      exact (h.2.2 _ (by omega)).symm
    · rw [if_neg g, if_neg (show ¬ u % w 2 < ra_lift z (0 + (3 - 1)) from g)]
      exact .inl ⟨rfl, rfl⟩
  | 2, k3, zK, w1, vM =>
    have b0 := w1 0 (by decide)
    have hu2 : u < w 1 * w 2 := by rw [b0, Nat.one_mul] at hu; exact hu
    have c0 : ra_lift z 0 = 1 := by unfold ra_lift; rw [if_pos (by omega)]
    refine ⟨3, ?_⟩
    rw [show nI 2 - 1 = nI 1 from pk_sub (a := 2) (b := 1) (by decide)]
    refine ym_151s (i := 1) (Mi := w 2) (rr := u) (s := 0) (m := 1) hL hz k3 zK h (by decide) (vM 1 (by decide)) p2 (by omega) u31 (by show ra_lift z 2 < 2 ^ 31; omega) ?_
    rw [show nI 1 + (-1) = nI 0 from pk_m1 0]
    refine ym_151s (i := 0) (Mi := w 1) (rr := u / w 2) hL hz k3 zK h (by decide) (vM 0 (by decide)) p1 (by omega) e1 (by show ra_lift z 1 < 2 ^ 31; omega) ?_
    refine ym_151x (val := ra_pl fv (w 1) (w 2) z u) hz ho hq (by decide) ?_ hp
    rw [ra_pl_2 zK hu2]
    by_cases g2 : u % w 2 < ra_lift z 2
    · rw [if_pos (show u % w 2 < ra_lift z (1 + (3 - 2)) from g2)]
      by_cases g1 : u / w 2 % w 1 < ra_lift z 1
      · have bd := hin 0 (u / w 2 % w 1) (u % w 2) (by omega) g1 g2
        rw [ra_ix3, Nat.zero_mul, Nat.add_zero] at bd
        rw [if_pos (show u % w 2 < ra_lift z 2 ∧ u / w 2 % w 1 < ra_lift z 1 from ⟨g2, g1⟩), if_pos (show u / w 2 % w 1 < ra_lift z (0 + (3 - 2)) from g1)]
        have es : 0 + u % w 2 * 1 + u / w 2 % w 1 * (1 * ra_lift z (1 + (3 - 2))) = u % w 2 + u / w 2 % w 1 * ra_lift z 2 := by
          show 0 + u % w 2 * 1 + u / w 2 % w 1 * (1 * ra_lift z 2) = u % w 2 + u / w 2 % w 1 * ra_lift z 2
          rw [Nat.zero_add, Nat.mul_one, Nat.one_mul]
        rw [es]
        exact .inr ⟨by decide, by omega, (h.2.2 _ bd).symm⟩
      · rw [if_neg (show ¬ (u % w 2 < ra_lift z 2 ∧ u / w 2 % w 1 < ra_lift z 1) from fun y => g1 y.2), if_neg (show ¬ u / w 2 % w 1 < ra_lift z (0 + (3 - 2)) from g1)]
        exact .inl ⟨rfl, rfl⟩
    · rw [if_neg (show ¬ (u % w 2 < ra_lift z 2 ∧ u / w 2 % w 1 < ra_lift z 1) from fun y => g2 y.1), if_neg (show ¬ u % w 2 < ra_lift z (1 + (3 - 2)) from g2)]
      exact .inl ⟨by split <;> rfl, rfl⟩
  | 3, k3, zK, w1, vM =>
    refine ⟨4, ?_⟩
    rw [show nI 3 - 1 = nI 2 from pk_sub (a := 3) (b := 1) (by decide)]
    refine ym_151s (i := 2) (Mi := w 2) (rr := u) (s := 0) (m := 1) hL hz k3 zK h (by decide) (vM 2 (by decide)) p2 (by omega) u31 (by show ra_lift z 2 < 2 ^ 31; omega) ?_
    rw [show nI 2 + (-1) = nI 1 from pk_m1 1]
    refine ym_151s (i := 1) (Mi := w 1) (rr := u / w 2) hL hz k3 zK h (by decide) (vM 1 (by decide)) p1 (by omega) e1 (by show ra_lift z 1 < 2 ^ 31; omega) ?_
    rw [show nI 1 + (-1) = nI 0 from pk_m1 0]
    refine ym_151s (i := 0) (Mi := w 0) (rr := u / w 2 / w 1) hL hz k3 zK h (by decide) (vM 0 (by decide)) p0 (by omega) e2 (by show ra_lift z 0 < 2 ^ 31; omega) ?_
    refine ym_151x (val := ra_pl fv (w 1) (w 2) z u) hz ho hq (by decide) ?_ hp
    rw [ra_pl_3 hu]
    by_cases g2 : u % w 2 < ra_lift z 2
    · rw [if_pos (show u % w 2 < ra_lift z (2 + (3 - 3)) from g2)]
      by_cases g1 : u / w 2 % w 1 < ra_lift z 1
      · rw [if_pos (show u / w 2 % w 1 < ra_lift z (1 + (3 - 3)) from g1)]
        by_cases g0 : u / w 2 / w 1 % w 0 < ra_lift z 0
        · have bd := hin (u / w 2 / w 1 % w 0) (u / w 2 % w 1) (u % w 2) g0 g1 g2
          rw [ra_ix3] at bd
          rw [if_pos (show u % w 2 < ra_lift z 2 ∧ u / w 2 % w 1 < ra_lift z 1 ∧ u / w 2 / w 1 % w 0 < ra_lift z 0 from ⟨g2, g1, g0⟩), if_pos (show u / w 2 / w 1 % w 0 < ra_lift z (0 + (3 - 3)) from g0)]
          have es : 0 + u % w 2 * 1 + u / w 2 % w 1 * (1 * ra_lift z (2 + (3 - 3))) + u / w 2 / w 1 % w 0 * (1 * ra_lift z (2 + (3 - 3)) * ra_lift z (1 + (3 - 3))) = u % w 2 + u / w 2 % w 1 * ra_lift z 2 + u / w 2 / w 1 % w 0 * (ra_lift z 2 * ra_lift z 1) := by
            show 0 + u % w 2 * 1 + u / w 2 % w 1 * (1 * ra_lift z 2) + u / w 2 / w 1 % w 0 * (1 * ra_lift z 2 * ra_lift z 1) = u % w 2 + u / w 2 % w 1 * ra_lift z 2 + u / w 2 / w 1 % w 0 * (ra_lift z 2 * ra_lift z 1)
            rw [Nat.zero_add, Nat.mul_one, Nat.one_mul]
          rw [es]
          exact .inr ⟨by decide, by omega, (h.2.2 _ bd).symm⟩
        · rw [if_neg (show ¬ (u % w 2 < ra_lift z 2 ∧ u / w 2 % w 1 < ra_lift z 1 ∧ u / w 2 / w 1 % w 0 < ra_lift z 0) from fun y => g0 y.2.2), if_neg (show ¬ u / w 2 / w 1 % w 0 < ra_lift z (0 + (3 - 3)) from g0)]
          exact .inl ⟨rfl, rfl⟩
      · rw [if_neg (show ¬ (u % w 2 < ra_lift z 2 ∧ u / w 2 % w 1 < ra_lift z 1 ∧ u / w 2 / w 1 % w 0 < ra_lift z 0) from fun y => g1 y.2.1), if_neg (show ¬ u / w 2 % w 1 < ra_lift z (1 + (3 - 3)) from g1)]
        exact .inl ⟨by split <;> rfl, rfl⟩
    · rw [if_neg (show ¬ (u % w 2 < ra_lift z 2 ∧ u / w 2 % w 1 < ra_lift z 1 ∧ u / w 2 / w 1 % w 0 < ra_lift z 0) from fun y => g2 y.1), if_neg (show ¬ u % w 2 < ra_lift z (2 + (3 - 3)) from g2)]
      exact .inl ⟨by split <;> (try split) <;> rfl, rfl⟩
theorem ym_absorb2 {post : SY → Prop} {L K q zs o M : Nat} {w : Nat → Nat} {z : ra_A} (hL : L < 2) (hz : zs < 11) (ho : o < 11) (hzo : zs ≠ o) (hc : c ≤ 32) (h1 : 1 ≤ c) (k3 : K ≤ 3) (zK : z.1 ≤ K) (h : ra_H rk dm am zs z) (wz : ra_W c z)
    (w32 : ∀ j, j < 3 → w j ≤ c) (w1 : ∀ j, j < 3 - K → w j = 1) (vK : lk L = nI K) (vC : lc L = nI M) (vM : ∀ i, i < K → lM (L * 3 + i) = nI (w (i + (3 - K)))) (eM : M = w 0 * w 1 * w 2) (hM : q * M + M ≤ 32)
    (hp : post (nI c, fv, oa, ol, ov, rk, dm, ra_blk am (o * 32 + q * M) M (fun i => ra_pl fv (w 1) (w 2) z i), lx, ly, lm, lfx, lfy, lfr, lp, lk, lc, lf, lM)) : wpY_absorb post (nI c, fv, oa, ol, ov, rk, dm, am, lx, ly, lm, lfx, lfy, lfr, lp, lk, lc, lf, lM) (nI L) 2 (nI q) (nI zs) (nI o) := by
  have cc := wz.2.2
  unfold wpY_absorb
  dsimp only
  rw [nI_clamp (by omega), vK, vC]
  refine ⟨vp_in_nI hL (by decide), nm_e (br_f (by decide) (br_f (by decide) ⟨vp_in_nI hL (by decide), nm_e ?_⟩))⟩
  refine ra_loop0 (fun n i => wY_absorb_118 post (nI L) (nI q) (nI zs) (nI o) (nI K) (nI M) (nI c) fv oa ol ov n (nI i) rk dm (ra_blk am (o * 32 + q * M) i (fun i => ra_pl fv (w 1) (w 2) z i)) lx ly lm lfx lfy lfr lp lk lc lf lM) M (fun n => ?_) (fun n u hu ih => ?_) (fun n h => ?_)
  · simp only [wY_absorb_118]
    exact br_t (nI_le (Nat.le_refl _) (by omega)) hp
  · simp only [wY_absorb_118]
    refine br_f (nI_ge hu (by omega)) (br_f (by rw [ra_le32 (by omega)]; omega) (nm_e ?_))
    refine ym_151 hL hz ho hc h1 k3 zK ⟨h.1, h.2.1, fun i hi => (ra_blk_out (by omega)).trans (h.2.2 i hi)⟩ wz w32 w1 vM (by rw [← eM]; exact hu) (by omega) ?_
    rw [← Nat.add_assoc, ra_blk_s rfl]
    exact ih
  · rw [ra_blk_0] at h
    exact h
end
end
section
/-! the reference: A -/
def yv_P (L j : Nat) : Prop := j ≠ 8 ∧ (L = 0 → j ≠ 6 ∧ j ≠ 7 ∧ j ≠ 9)
def yv_Q (L j : Nat) : Prop := yv_P L j ∧ (L = 1 → j ≠ 6 ∧ j ≠ 7 ∧ j ≠ 9) ∧ (L = 0 → j ≠ 4 ∧ j ≠ 5 ∧ j ≠ 10)
theorem yv_Q_1 {j : Nat} : yv_Q 1 j ↔ yv_P 0 j := by unfold yv_Q yv_P; omega
def yv_I (L sx sy mon fx fy : Nat) (x y : ra_A) (rk0 dm0 am0 lx0 ly0 lm0 lfx0 lfy0 lfr0 lp0 lk0 lc0 lf0 lM0 rk dm am lx ly lm lfx lfy lfr lp lk lc lf lM : Nat → Int32) : Prop :=
  yv_V lx ly lm lfx lfy lfr lp lf L sx sy mon fx fy (ra_F x y fx fy) (ra_pos x y fx fy) ∧ (∀ N, N < L → yv_E N lx0 ly0 lm0 lfx0 lfy0 lfr0 lp0 lk0 lc0 lf0 lM0 lx ly lm lfx lfy lfr lp lk lc lf lM) ∧ ∀ j, yv_Q L j → ra_S rk0 dm0 am0 rk dm am j
theorem yv_I_g {L sx sy mon fx fy : Nat} {x y : ra_A} {rk0 dm0 am0 lx0 ly0 lm0 lfx0 lfy0 lfr0 lp0 lk0 lc0 lf0 lM0 rk dm am lx ly lm lfx lfy lfr lp lk lc lf lM rk2 dm2 am2 lx2 ly2 lm2 lfx2 lfy2 lfr2 lp2 lk2 lc2 lf2 lM2 : Nat → Int32} (h3 : ra_fr fx fy ≤ 3) (h : yv_I L sx sy mon fx fy x y rk0 dm0 am0 lx0 ly0 lm0 lfx0 lfy0 lfr0 lp0 lk0 lc0 lf0 lM0 rk dm am lx ly lm lfx lfy lfr lp lk lc lf lM)
    (e : ∀ N, N ≤ L → yv_E N lx ly lm lfx lfy lfr lp lk lc lf lM lx2 ly2 lm2 lfx2 lfy2 lfr2 lp2 lk2 lc2 lf2 lM2) (s : ∀ j, yv_Q L j → ra_S rk dm am rk2 dm2 am2 j) : yv_I L sx sy mon fx fy x y rk0 dm0 am0 lx0 ly0 lm0 lfx0 lfy0 lfr0 lp0 lk0 lc0 lf0 lM0 rk2 dm2 am2 lx2 ly2 lm2 lfx2 lfy2 lfr2 lp2 lk2 lc2 lf2 lM2 :=
  ⟨yv_V_E h3 (e L (Nat.le_refl L)) h.1, fun N hN => yv_E_t (h.2.1 N hN) (e N (Nat.le_of_lt hN)), fun j hj => ra_S_t (h.2.2 j hj) (s j hj)⟩
theorem yv_I_s {L sx sy mon fx fy : Nat} {x y : ra_A} {rk0 dm0 am0 lx0 ly0 lm0 lfx0 lfy0 lfr0 lp0 lk0 lc0 lf0 lM0 rk dm am lx ly lm lfx lfy lfr lp lk lc lf lM rk2 dm2 am2 : Nat → Int32} (h : yv_I L sx sy mon fx fy x y rk0 dm0 am0 lx0 ly0 lm0 lfx0 lfy0 lfr0 lp0 lk0 lc0 lf0 lM0 rk dm am lx ly lm lfx lfy lfr lp lk lc lf lM)
    (s : ∀ j, yv_Q L j → ra_S rk dm am rk2 dm2 am2 j) : yv_I L sx sy mon fx fy x y rk0 dm0 am0 lx0 ly0 lm0 lfx0 lfy0 lfr0 lp0 lk0 lc0 lf0 lM0 rk2 dm2 am2 lx ly lm lfx lfy lfr lp lk lc lf lM :=
  ⟨h.1, h.2.1, fun j hj => ra_S_t (h.2.2 j hj) (s j hj)⟩
theorem yv_I_k {L sx sy mon fx fy : Nat} {x y : ra_A} {rk0 dm0 am0 lx0 ly0 lm0 lfx0 lfy0 lfr0 lp0 lk0 lc0 lf0 lM0 rk dm am lx ly lm lfx lfy lfr lp lk lc lf lM lk2 lc2 lM2 : Nat → Int32} (h : yv_I L sx sy mon fx fy x y rk0 dm0 am0 lx0 ly0 lm0 lfx0 lfy0 lfr0 lp0 lk0 lc0 lf0 lM0 rk dm am lx ly lm lfx lfy lfr lp lk lc lf lM)
    (e : ∀ N, N ≠ L → lk2 N = lk N ∧ lc2 N = lc N ∧ ∀ i, i < 3 → lM2 (N * 3 + i) = lM (N * 3 + i)) : yv_I L sx sy mon fx fy x y rk0 dm0 am0 lx0 ly0 lm0 lfx0 lfy0 lfr0 lp0 lk0 lc0 lf0 lM0 rk dm am lx ly lm lfx lfy lfr lp lk2 lc2 lf lM2 :=
  ⟨h.1, fun N hN => yv_E_t (h.2.1 N hN) ⟨rfl, rfl, rfl, rfl, rfl, rfl, rfl, (e N (Nat.ne_of_lt hN)).1, (e N (Nat.ne_of_lt hN)).2.1, fun _ _ => rfl, (e N (Nat.ne_of_lt hN)).2.2⟩, h.2.2⟩
theorem yv_E_k {L K : Nat} {lx ly lm lfx lfy lfr lp lk lc lf lM lx' ly' lm' lfx' lfy' lfr' lp' lk' lc' lf' lM' : Nat → Int32} (h : yv_E L lx ly lm lfx lfy lfr lp lk lc lf lM lx' ly' lm' lfx' lfy' lfr' lp' lk' lc' lf' lM') : lk' L = lk L ∧ lc' L = lc L ∧ ∀ i, i < 3 → lM' (L * 3 + i) = lM (L * 3 + i) := by
  obtain ⟨a1, a2, a3, a4, a5, a6, a7, a8, a9, a10, a11⟩ := h
  exact ⟨a8, a9, a11⟩

theorem yb_1 {post : Int32 → SY → Prop} {c v mon : Nat} {x y : ra_A} {fv oa ol ov : Int32} {rk dm am lx ly lm lfx lfy lfr lp lk lc lf lM : Nat → Int32} (hv : v ≤ 12) (h8 : 8 ≤ c) (hc : c ≤ 32) (wx : ra_W c x) (wy : ra_W c y) (hfit : 1 = 1 → x.1 ≤ ra_dL v ∧ y.1 ≤ ra_dR v)
    (hm : mon ≤ 1) (hmv : mon = 0 ↔ 6 ≤ v) (hm0 : mon ≠ 0 → x.1 = 0) (h4 : mon = 0 → ra_H rk dm am 6 x) (h6 : ra_H rk dm am 7 y)
    (hp : ∀ (z : Int32) (zs : Nat) rk2 dm2 am2 lx2 ly2 lm2 lfx2 lfy2 lfr2 lp2 lk2 lc2 lf2 lM2, (∀ N, N ≤ 1 → yv_E N lx ly lm lfx lfy lfr lp lk lc lf lM lx2 ly2 lm2 lfx2 lfy2 lfr2 lp2 lk2 lc2 lf2 lM2) → (∀ j, yv_P 1 j → ra_S rk dm am rk2 dm2 am2 j) →
      ((ra_PE c v x y = 0 ∧ zs < 11 ∧ zs ≠ 9 ∧ ra_H rk2 dm2 am2 zs (ra_PA fv v x y) ∧ zs = 8 ∧ z = 0) ∨ (ra_PE c v x y ≠ 0 ∧ z = ra_PE c v x y)) → post z (nI c, fv, oa, ol, ov, rk2, dm2, am2, lx2, ly2, lm2, lfx2, lfy2, lfr2, lp2, lk2, lc2, lf2, lM2)) :
    wpY_prim post (nI c, fv, oa, ol, ov, rk, dm, am, lx, ly, lm, lfx, lfy, lfr, lp, lk, lc, lf, lM) (nI v) 6 7 8 := by
  refine ym_prim (sx := 6) (sy := 7) (t := 8) hv h8 hc (by decide) (by decide) (by decide) (by decide) (by decide) (fun g => h4 (hmv.mpr g)) h6 wx wy (hfit rfl).1 (hfit rfl).2 ?_
  intro rk' dm' am' a b
  refine hp _ 8 rk' dm' am' lx ly lm lfx lfy lfr lp lk lc lf lM (fun _ _ => yv_E_r) (fun j hj => a j hj.1) ?_
  by_cases e : ra_PE c v x y = 0
  · exact .inl ⟨e, by decide, by decide, b e, rfl, e⟩
  · exact .inr ⟨e, rfl⟩
theorem yl0_1 {post : Int32 → SY → Prop} {c v fx fy sx sy mon : Nat} {x y : ra_A} {fv oa ol ov : Int32} {rk0 dm0 am0 lx0 ly0 lm0 lfx0 lfy0 lfr0 lp0 lk0 lc0 lf0 lM0 : Nat → Int32} {J : Int32 → Int32 → Int32 → Int32 → Int32 → Int32 → (Nat → Int32) → (Nat → Int32) → (Nat → Int32) → (Nat → Int32) → (Nat → Int32) → (Nat → Int32) → (Nat → Int32) → (Nat → Int32) → (Nat → Int32) → (Nat → Int32) → (Nat → Int32) → (Nat → Int32) → (Nat → Int32) → (Nat → Int32) → Prop}
    (hv : v ≤ 12) (h8 : 8 ≤ c) (hc : c ≤ 32) (wx : ra_W c x) (wy : ra_W c y) (hfx : fx ≤ x.1) (hfy : fy ≤ y.1) (hfit : 1 = 1 → x.1 - fx ≤ ra_dL v ∧ y.1 - fy ≤ ra_dR v)
    (hm : mon ≤ 1) (hmv : mon = 0 ↔ 6 ≤ v) (hm0 : mon ≠ 0 → x.1 = 0)
    (hd : ra_dis x y (if fx < fy then fx else fy) = false)
    (hsx : sx < 11) (hsy : sy < 11) (qx : yv_Q 1 sx) (qy : yv_Q 1 sy) (hx0 : mon = 0 → ra_H rk0 dm0 am0 sx x) (hy0 : ra_H rk0 dm0 am0 sy y)
    (hp : ∀ rk' dm' am' lx' ly' lm' lfx' lfy' lfr' lp' lk' lc' lf' lM', (∀ N, N < 1 → yv_E N lx0 ly0 lm0 lfx0 lfy0 lfr0 lp0 lk0 lc0 lf0 lM0 lx' ly' lm' lfx' lfy' lfr' lp' lk' lc' lf' lM') → (∀ j, yv_Q 1 j → ra_S rk0 dm0 am0 rk' dm' am' j) →
      (ra_AE c fv (ra_PE c v) (ra_PA fv v) x y fx fy = 0 → ra_H rk' dm' am' 9 (ra_AA c fv (ra_PE c v) (ra_PA fv v) x y fx fy)) → post (ra_AE c fv (ra_PE c v) (ra_PA fv v) x y fx fy) (nI c, fv, oa, ol, ov, rk', dm', am', lx', ly', lm', lfx', lfy', lfr', lp', lk', lc', lf', lM'))

    (hJ : ∀ rk dm am lx ly lm lfx lfy lfr lp lk lc lf lM, yv_I 1 sx sy mon fx fy x y rk0 dm0 am0 lx0 ly0 lm0 lfx0 lfy0 lfr0 lp0 lk0 lc0 lf0 lM0 rk dm am lx ly lm lfx lfy lfr lp lk lc lf lM → lk 1 = nI (ra_K (ra_PA fv v) x y fx fy (ra_pos x y fx fy)) → (∀ i, i < ra_pos x y fx fy → ra_PE c v (ra_cx x y fx fy i) (ra_cy x y fx fy i) = 0) → J (nI 1) (nI c) fv oa ol ov rk dm am lx ly lm lfx lfy lfr lp lk lc lf lM) :
    ∀ k q, q + k = ra_pos x y fx fy → ∀ n rk dm am lx ly lm lfx lfy lfr lp lk lc lf lM, yv_I 1 sx sy mon fx fy x y rk0 dm0 am0 lx0 ly0 lm0 lfx0 lfy0 lfr0 lp0 lk0 lc0 lf0 lM0 rk dm am lx ly lm lfx lfy lfr lp lk lc lf lM → lk 1 = nI (ra_K (ra_PA fv v) x y fx fy q) → (∀ i, i < q → ra_PE c v (ra_cx x y fx fy i) (ra_cy x y fx fy i) = 0) →
    wY_innerA_146 post J (nI v) (nI 9) (nI 0) (n + k + 1) (nI q) (nI c) fv oa ol ov rk dm am lx ly lm lfx lfy lfr lp lk lc lf lM := by
  have hokk := ra_P_ok (fl := fv) h8 hc hv
  have hP := ra_pos_le hc wx wy hfx hfy
  have fr3 := ra_fr_3 wx wy hfx hfy
  have zW : ∀ q, q < ra_pos x y fx fy → ra_PE c v (ra_cx x y fx fy q) (ra_cy x y fx fy q) = 0 → ra_W c (ra_PA fv v (ra_cx x y fx fy q) (ra_cy x y fx fy q)) := fun q hq =>
    hokk _ _ (ra_cx_W wx hfx hd hq) (ra_cy_W wy hfy hd hq)
  intro k
  induction k with
  | zero =>
    intro q hq n rk dm am lx ly lm lfx lfy lfr lp lk lc lf lM hI hK hz
    have hq' : q = ra_pos x y fx fy := by omega
    rw [hq'] at hK hz
    have hlp : lp 1 = nI (ra_pos x y fx fy) := hI.1.2.2.2.2.2.2.1
    rw [wY_innerA_146]
    exact br_t (show lp 1 ≤ nI q by rw [hlp]; exact nI_le (by omega) (by omega)) (nm_r (nI_1 0) (hJ rk dm am lx ly lm lfx lfy lfr lp lk lc lf lM hI hK hz))
  | succ k ih =>
    intro q hq n rk dm am lx ly lm lfx lfy lfr lp lk lc lf lM hI hK hz
    have hq' : q < ra_pos x y fx fy := by omega
    have hx : mon = 0 → ra_H rk dm am sx x := fun m => ra_H_S (hx0 m) wx hc (hI.2.2 sx qx)
    have hy := ra_H_S hy0 wy hc (hI.2.2 sy qy)
    have hlp : lp 1 = nI (ra_pos x y fx fy) := hI.1.2.2.2.2.2.2.1
    rw [wY_innerA_146]
    refine br_f (show ¬ lp 1 ≤ nI q by rw [hlp]; exact nI_ge hq' (by omega)) ?_
    refine ym_extract (L := 1) (dx := 6) (dy := 7) (by decide) hc hm hI.1 hx hy wx wy hfx hfy hd hq' hsx hsy (by decide) (by decide) (by unfold yv_Q yv_P at qx; omega) (by unfold yv_Q yv_P at qy; omega) (by unfold yv_Q yv_P at qy; omega) (by decide) ?_
    intro rk1 dm1 am1 h4 h6 hS1
    refine yb_1 hv h8 hc (ra_cx_W wx hfx hd hq') (ra_cy_W wy hfy hd hq') hfit hm hmv (fun m => by show x.1 - fx = 0; rw [hm0 m]; omega) h4 h6 ?_
    intro z zs rk2 dm2 am2 lx2 ly2 lm2 lfx2 lfy2 lfr2 lp2 lk2 lc2 lf2 lM2 hE2 hS2 hb
    have hI2 : yv_I 1 sx sy mon fx fy x y rk0 dm0 am0 lx0 ly0 lm0 lfx0 lfy0 lfr0 lp0 lk0 lc0 lf0 lM0 rk2 dm2 am2 lx2 ly2 lm2 lfx2 lfy2 lfr2 lp2 lk2 lc2 lf2 lM2 := yv_I_g fr3 (yv_I_s hI (fun j hj => hS1 j (by unfold yv_Q yv_P at hj; omega) (by unfold yv_Q yv_P at hj; omega))) hE2 (fun j hj => hS2 j hj.1)
    have hK2 := ((yv_E_k (K := 0) (hE2 1 (Nat.le_refl _))).1).trans hK
    rcases hb with ⟨he, hz11, hzo, hzR, rfl, rfl⟩ | ⟨he, ez⟩
    · refine br_t (by decide) ?_
      have zw := zW q hq' he
      have k3 : ra_K (ra_PA fv v) x y fx fy q ≤ 3 := ra_max_le _ fun i hi => (zW i (by omega) (hz i hi)).1
      refine ym_absorb0 (L := 1) (by decide) hz11 k3 zw.1 hK2 hzR ?_
      intro lk3 hk3 ho3
      refine nm_r (nI_1 q) ?_
      refine ih (q + 1) (by omega) n _ _ _ _ _ _ _ _ _ _ _ _ _ _ (yv_I_k hI2 (fun N hN => ⟨ho3 N hN, rfl, fun _ _ => rfl⟩)) hk3 (fun i hi => ?_)
      by_cases zz : i = q
      · subst zz; exact he
      · exact hz i (by omega)
    · subst ez
      refine br_f (Int32.not_le.mpr (ra_PE_n he)) ?_
      have e1 := ra_AE_e (c := c) (fl := fv) (E := ra_PE c v) (R := ra_PA fv v) hd hq' hz he
      have := hp _ _ _ _ _ _ _ _ _ _ _ _ _ _ hI2.2.1 hI2.2.2 (fun z => absurd (e1.symm.trans z) he)
      rw [e1] at this
      exact this
theorem yl1_1 {post : Int32 → SY → Prop} {c v fx fy sx sy mon : Nat} {x y : ra_A} {fv oa ol ov : Int32} {rk0 dm0 am0 lx0 ly0 lm0 lfx0 lfy0 lfr0 lp0 lk0 lc0 lf0 lM0 : Nat → Int32} {J : Int32 → Int32 → Int32 → Int32 → Int32 → Int32 → (Nat → Int32) → (Nat → Int32) → (Nat → Int32) → (Nat → Int32) → (Nat → Int32) → (Nat → Int32) → (Nat → Int32) → (Nat → Int32) → (Nat → Int32) → (Nat → Int32) → (Nat → Int32) → (Nat → Int32) → (Nat → Int32) → (Nat → Int32) → Prop} {K : Nat}
    (hv : v ≤ 12) (h8 : 8 ≤ c) (hc : c ≤ 32) (wx : ra_W c x) (wy : ra_W c y) (hfx : fx ≤ x.1) (hfy : fy ≤ y.1) (hfit : 1 = 1 → x.1 - fx ≤ ra_dL v ∧ y.1 - fy ≤ ra_dR v)
    (hm : mon ≤ 1) (hmv : mon = 0 ↔ 6 ≤ v) (hm0 : mon ≠ 0 → x.1 = 0)
    (hd : ra_dis x y (if fx < fy then fx else fy) = false)
    (hsx : sx < 11) (hsy : sy < 11) (qx : yv_Q 1 sx) (qy : yv_Q 1 sy) (hx0 : mon = 0 → ra_H rk0 dm0 am0 sx x) (hy0 : ra_H rk0 dm0 am0 sy y)
    (hp : ∀ rk' dm' am' lx' ly' lm' lfx' lfy' lfr' lp' lk' lc' lf' lM', (∀ N, N < 1 → yv_E N lx0 ly0 lm0 lfx0 lfy0 lfr0 lp0 lk0 lc0 lf0 lM0 lx' ly' lm' lfx' lfy' lfr' lp' lk' lc' lf' lM') → (∀ j, yv_Q 1 j → ra_S rk0 dm0 am0 rk' dm' am' j) →
      (ra_AE c fv (ra_PE c v) (ra_PA fv v) x y fx fy = 0 → ra_H rk' dm' am' 9 (ra_AA c fv (ra_PE c v) (ra_PA fv v) x y fx fy)) → post (ra_AE c fv (ra_PE c v) (ra_PA fv v) x y fx fy) (nI c, fv, oa, ol, ov, rk', dm', am', lx', ly', lm', lfx', lfy', lfr', lp', lk', lc', lf', lM'))

    (hz : ∀ i, i < ra_pos x y fx fy → ra_PE c v (ra_cx x y fx fy i) (ra_cy x y fx fy i) = 0) (eK : K = ra_K (ra_PA fv v) x y fx fy (ra_pos x y fx fy))
    (hJ : ∀ rk dm am lx ly lm lfx lfy lfr lp lk lc lf lM, yv_I 1 sx sy mon fx fy x y rk0 dm0 am0 lx0 ly0 lm0 lfx0 lfy0 lfr0 lp0 lk0 lc0 lf0 lM0 rk dm am lx ly lm lfx lfy lfr lp lk lc lf lM → lk 1 = nI K → (∀ i, i < K → lM (1 * 3 + i) = nI (ra_w (ra_PA fv v) x y fx fy (ra_pos x y fx fy) (i + (3 - K)))) → J (nI 2) (nI c) fv oa ol ov rk dm am lx ly lm lfx lfy lfr lp lk lc lf lM) :
    ∀ k q, q + k = ra_pos x y fx fy → ∀ n rk dm am lx ly lm lfx lfy lfr lp lk lc lf lM, yv_I 1 sx sy mon fx fy x y rk0 dm0 am0 lx0 ly0 lm0 lfx0 lfy0 lfr0 lp0 lk0 lc0 lf0 lM0 rk dm am lx ly lm lfx lfy lfr lp lk lc lf lM → lk 1 = nI K → (∀ i, i < K → lM (1 * 3 + i) = nI (ra_w (ra_PA fv v) x y fx fy q (i + (3 - K)))) →
    wY_innerA_146 post J (nI v) (nI 9) (nI 1) (n + k + 1) (nI q) (nI c) fv oa ol ov rk dm am lx ly lm lfx lfy lfr lp lk lc lf lM := by
  have hokk := ra_P_ok (fl := fv) h8 hc hv
  have hP := ra_pos_le hc wx wy hfx hfy
  have fr3 := ra_fr_3 wx wy hfx hfy
  have zW : ∀ q, q < ra_pos x y fx fy → ra_W c (ra_PA fv v (ra_cx x y fx fy q) (ra_cy x y fx fy q)) := fun q hq =>
    hokk _ _ (ra_cx_W wx hfx hd hq) (ra_cy_W wy hfy hd hq) (hz q hq)
  have k3 : K ≤ 3 := by rw [eK]; exact ra_max_le _ fun i hi => (zW i hi).1
  intro k
  induction k with
  | zero =>
    intro q hq n rk dm am lx ly lm lfx lfy lfr lp lk lc lf lM hI hK hM
    have hq' : q = ra_pos x y fx fy := by omega
    rw [hq'] at hM
    have hlp : lp 1 = nI (ra_pos x y fx fy) := hI.1.2.2.2.2.2.2.1
    rw [wY_innerA_146]
    exact br_t (show lp 1 ≤ nI q by rw [hlp]; exact nI_le (by omega) (by omega)) (nm_r (nI_1 1) (hJ rk dm am lx ly lm lfx lfy lfr lp lk lc lf lM hI hK hM))
  | succ k ih =>
    intro q hq n rk dm am lx ly lm lfx lfy lfr lp lk lc lf lM hI hK hM
    have hq' : q < ra_pos x y fx fy := by omega
    have hx : mon = 0 → ra_H rk dm am sx x := fun m => ra_H_S (hx0 m) wx hc (hI.2.2 sx qx)
    have hy := ra_H_S hy0 wy hc (hI.2.2 sy qy)
    have hlp : lp 1 = nI (ra_pos x y fx fy) := hI.1.2.2.2.2.2.2.1
    rw [wY_innerA_146]
    refine br_f (show ¬ lp 1 ≤ nI q by rw [hlp]; exact nI_ge hq' (by omega)) ?_
    refine ym_extract (L := 1) (dx := 6) (dy := 7) (by decide) hc hm hI.1 hx hy wx wy hfx hfy hd hq' hsx hsy (by decide) (by decide) (by unfold yv_Q yv_P at qx; omega) (by unfold yv_Q yv_P at qy; omega) (by unfold yv_Q yv_P at qy; omega) (by decide) ?_
    intro rk1 dm1 am1 h4 h6 hS1
    refine yb_1 hv h8 hc (ra_cx_W wx hfx hd hq') (ra_cy_W wy hfy hd hq') hfit hm hmv (fun m => by show x.1 - fx = 0; rw [hm0 m]; omega) h4 h6 ?_
    intro z zs rk2 dm2 am2 lx2 ly2 lm2 lfx2 lfy2 lfr2 lp2 lk2 lc2 lf2 lM2 hE2 hS2 hb
    have hI2 : yv_I 1 sx sy mon fx fy x y rk0 dm0 am0 lx0 ly0 lm0 lfx0 lfy0 lfr0 lp0 lk0 lc0 lf0 lM0 rk2 dm2 am2 lx2 ly2 lm2 lfx2 lfy2 lfr2 lp2 lk2 lc2 lf2 lM2 := yv_I_g fr3 (yv_I_s hI (fun j hj => hS1 j (by unfold yv_Q yv_P at hj; omega) (by unfold yv_Q yv_P at hj; omega))) hE2 (fun j hj => hS2 j hj.1)
    obtain ⟨t1, t2, t3⟩ := yv_E_k (K := 0) (hE2 1 (Nat.le_refl _))
    rcases hb with ⟨he, hz11, hzo, hzR, rfl, rfl⟩ | ⟨he, ez⟩
    · refine br_t (by decide) ?_
      have zK : (ra_PA fv v (ra_cx x y fx fy q) (ra_cy x y fx fy q)).1 ≤ K := by
        rw [eK]; exact ra_le_max (f := fun q => (ra_PA fv v (ra_cx x y fx fy q) (ra_cy x y fx fy q)).1) _ q hq'
      refine ym_absorb1 (L := 1) (m := fun i => ra_w (ra_PA fv v) x y fx fy q (i + (3 - K))) (by decide) hz11 hc (by omega) k3 zK (t1.trans hK) hzR (zW q hq') (fun i hi => ra_max_le _ fun p hp' => ra_lift_le (zW p (by omega)) (by omega) (by omega)) (fun i hi => (t3 i (by omega)).trans (hM i hi)) ?_
      intro lM3 hM3 ho3
      refine nm_r (nI_1 q) ?_
      exact ih (q + 1) (by omega) n _ _ _ _ _ _ _ _ _ _ _ _ _ _ (yv_I_k hI2 (fun N hN => ⟨rfl, rfl, ho3 N hN⟩)) (t1.trans hK) hM3
    · exact absurd (hz q hq') he
theorem yl2_1 {post : Int32 → SY → Prop} {c v fx fy sx sy mon : Nat} {x y : ra_A} {fv oa ol ov : Int32} {rk0 dm0 am0 lx0 ly0 lm0 lfx0 lfy0 lfr0 lp0 lk0 lc0 lf0 lM0 : Nat → Int32} {J : Int32 → Int32 → Int32 → Int32 → Int32 → Int32 → (Nat → Int32) → (Nat → Int32) → (Nat → Int32) → (Nat → Int32) → (Nat → Int32) → (Nat → Int32) → (Nat → Int32) → (Nat → Int32) → (Nat → Int32) → (Nat → Int32) → (Nat → Int32) → (Nat → Int32) → (Nat → Int32) → (Nat → Int32) → Prop} {K M : Nat} {w : Nat → Nat}
    (hv : v ≤ 12) (h8 : 8 ≤ c) (hc : c ≤ 32) (wx : ra_W c x) (wy : ra_W c y) (hfx : fx ≤ x.1) (hfy : fy ≤ y.1) (hfit : 1 = 1 → x.1 - fx ≤ ra_dL v ∧ y.1 - fy ≤ ra_dR v)
    (hm : mon ≤ 1) (hmv : mon = 0 ↔ 6 ≤ v) (hm0 : mon ≠ 0 → x.1 = 0)
    (hd : ra_dis x y (if fx < fy then fx else fy) = false)
    (hsx : sx < 11) (hsy : sy < 11) (qx : yv_Q 1 sx) (qy : yv_Q 1 sy) (hx0 : mon = 0 → ra_H rk0 dm0 am0 sx x) (hy0 : ra_H rk0 dm0 am0 sy y)
    (hp : ∀ rk' dm' am' lx' ly' lm' lfx' lfy' lfr' lp' lk' lc' lf' lM', (∀ N, N < 1 → yv_E N lx0 ly0 lm0 lfx0 lfy0 lfr0 lp0 lk0 lc0 lf0 lM0 lx' ly' lm' lfx' lfy' lfr' lp' lk' lc' lf' lM') → (∀ j, yv_Q 1 j → ra_S rk0 dm0 am0 rk' dm' am' j) →
      (ra_AE c fv (ra_PE c v) (ra_PA fv v) x y fx fy = 0 → ra_H rk' dm' am' 9 (ra_AA c fv (ra_PE c v) (ra_PA fv v) x y fx fy)) → post (ra_AE c fv (ra_PE c v) (ra_PA fv v) x y fx fy) (nI c, fv, oa, ol, ov, rk', dm', am', lx', ly', lm', lfx', lfy', lfr', lp', lk', lc', lf', lM'))

    (hz : ∀ i, i < ra_pos x y fx fy → ra_PE c v (ra_cx x y fx fy i) (ra_cy x y fx fy i) = 0) (eK : K = ra_K (ra_PA fv v) x y fx fy (ra_pos x y fx fy)) (ew : w = ra_w (ra_PA fv v) x y fx fy (ra_pos x y fx fy)) (eM : M = w 0 * w 1 * w 2) (pp : 0 < ra_pos x y fx fy)
    (hM : ra_pos x y fx fy * M ≤ c) (hK3 : ra_fr fx fy + K ≤ 3)
    (hJ : ∀ rk dm am lx ly lm lfx lfy lfr lp lk lc lf lM, yv_I 1 sx sy mon fx fy x y rk0 dm0 am0 lx0 ly0 lm0 lfx0 lfy0 lfr0 lp0 lk0 lc0 lf0 lM0 rk dm am lx ly lm lfx lfy lfr lp lk lc lf lM → ra_H rk dm am 9 (ra_AA c fv (ra_PE c v) (ra_PA fv v) x y fx fy) → J (nI 3) (nI c) fv oa ol ov rk dm am lx ly lm lfx lfy lfr lp lk lc lf lM) :
    ∀ k q, q + k = ra_pos x y fx fy → ∀ n rk dm am lx ly lm lfx lfy lfr lp lk lc lf lM, yv_I 1 sx sy mon fx fy x y rk0 dm0 am0 lx0 ly0 lm0 lfx0 lfy0 lfr0 lp0 lk0 lc0 lf0 lM0 rk dm am lx ly lm lfx lfy lfr lp lk lc lf lM → lk 1 = nI K → lc 1 = nI M → (∀ i, i < K → lM (1 * 3 + i) = nI (w (i + (3 - K)))) → rk 9 = nI (ra_fr fx fy + K) →
    (∀ i, i < ra_fr fx fy + K → dm (9 * 3 + i) = nI (if i < ra_fr fx fy then ra_F x y fx fy i else w (i - ra_fr fx fy + (3 - K)))) →
    (∀ i, i < q * M → am (9 * 32 + i) = (fun q i => ra_pl fv (w 1) (w 2) (ra_PA fv v (ra_cx x y fx fy q) (ra_cy x y fx fy q)) i) (i / M) (i % M)) →
    wY_innerA_146 post J (nI v) (nI 9) (nI 2) (n + k + 1) (nI q) (nI c) fv oa ol ov rk dm am lx ly lm lfx lfy lfr lp lk lc lf lM := by
  have hokk := ra_P_ok (fl := fv) h8 hc hv
  have hP := ra_pos_le hc wx wy hfx hfy
  have fr3 := ra_fr_3 wx wy hfx hfy
  have zW : ∀ q, q < ra_pos x y fx fy → ra_W c (ra_PA fv v (ra_cx x y fx fy q) (ra_cy x y fx fy q)) := fun q hq =>
    hokk _ _ (ra_cx_W wx hfx hd hq) (ra_cy_W wy hfy hd hq) (hz q hq)
  have w32 : ∀ j, j < 3 → w j ≤ c := fun j hj => by rw [ew]; exact ra_max_le _ fun q hq => ra_lift_le (zW q hq) (by omega) hj
  have w1 : ∀ j, j < 3 - K → w j = 1 := fun j hj => by rw [ew]; rw [eK] at hj; exact ra_w_1 pp j hj
  intro k
  induction k with
  | zero =>
    intro q hq n rk dm am lx ly lm lfx lfy lfr lp lk lc lf lM hI hK hC hMM hr hdm ha
    have hq' : q = ra_pos x y fx fy := by omega
    rw [hq'] at ha
    have hlp : lp 1 = nI (ra_pos x y fx fy) := hI.1.2.2.2.2.2.2.1
    rw [wY_innerA_146]
    exact br_t (show lp 1 ≤ nI q by rw [hlp]; exact nI_le (by omega) (by omega)) (nm_r (nI_1 2) (hJ rk dm am lx ly lm lfx lfy lfr lp lk lc lf lM hI (ra_H_AA pp rfl eK ew eM rfl (by omega) hr hdm ha)))
  | succ k ih =>
    intro q hq n rk dm am lx ly lm lfx lfy lfr lp lk lc lf lM hI hK hC hMM hr hdm ha
    have hq' : q < ra_pos x y fx fy := by omega
    have hx : mon = 0 → ra_H rk dm am sx x := fun m => ra_H_S (hx0 m) wx hc (hI.2.2 sx qx)
    have hy := ra_H_S hy0 wy hc (hI.2.2 sy qy)
    have hlp : lp 1 = nI (ra_pos x y fx fy) := hI.1.2.2.2.2.2.2.1
    rw [wY_innerA_146]
    refine br_f (show ¬ lp 1 ≤ nI q by rw [hlp]; exact nI_ge hq' (by omega)) ?_
    refine ym_extract (L := 1) (dx := 6) (dy := 7) (by decide) hc hm hI.1 hx hy wx wy hfx hfy hd hq' hsx hsy (by decide) (by decide) (by unfold yv_Q yv_P at qx; omega) (by unfold yv_Q yv_P at qy; omega) (by unfold yv_Q yv_P at qy; omega) (by decide) ?_
    intro rk1 dm1 am1 h4 h6 hS1
    refine yb_1 hv h8 hc (ra_cx_W wx hfx hd hq') (ra_cy_W wy hfy hd hq') hfit hm hmv (fun m => by show x.1 - fx = 0; rw [hm0 m]; omega) h4 h6 ?_
    intro z zs rk2 dm2 am2 lx2 ly2 lm2 lfx2 lfy2 lfr2 lp2 lk2 lc2 lf2 lM2 hE2 hS2 hb
    have hI2 : yv_I 1 sx sy mon fx fy x y rk0 dm0 am0 lx0 ly0 lm0 lfx0 lfy0 lfr0 lp0 lk0 lc0 lf0 lM0 rk2 dm2 am2 lx2 ly2 lm2 lfx2 lfy2 lfr2 lp2 lk2 lc2 lf2 lM2 := yv_I_g fr3 (yv_I_s hI (fun j hj => hS1 j (by unfold yv_Q yv_P at hj; omega) (by unfold yv_Q yv_P at hj; omega))) hE2 (fun j hj => hS2 j hj.1)
    obtain ⟨t1, t2, t3⟩ := yv_E_k (K := 0) (hE2 1 (Nat.le_refl _))
    have hSo : ra_S rk dm am rk2 dm2 am2 9 := ra_S_t (hS1 _ (by decide) (by decide)) (hS2 _ (by unfold yv_P; decide))
    have hqM : q * M + M ≤ 32 := by
      have : (q + 1) * M ≤ ra_pos x y fx fy * M := Nat.mul_le_mul_right _ hq'
      rw [Nat.succ_mul] at this; omega
    rcases hb with ⟨he, hz11, hzo, hzR, rfl, rfl⟩ | ⟨he, ez⟩
    · refine br_t (by decide) ?_
      have zK : (ra_PA fv v (ra_cx x y fx fy q) (ra_cy x y fx fy q)).1 ≤ K := by
        rw [eK]; exact ra_le_max (f := fun q => (ra_PA fv v (ra_cx x y fx fy q) (ra_cy x y fx fy q)).1) _ q hq'
      have hMM2 : ∀ i, i < K → lM2 (1 * 3 + i) = nI (w (i + (3 - K))) := fun i hi => (t3 i (by omega)).trans (hMM i hi)
      refine ym_absorb2 (L := 1) (o := 9) (w := w) (M := M) (by decide) hz11 (by decide) hzo hc (by omega) (by omega) zK hzR (zW q hq') w32 w1 (t1.trans hK) (t2.trans hC) hMM2 eM hqM ?_
      refine nm_r (nI_1 q) ?_
      refine ih (q + 1) (by omega) n _ _ _ _ _ _ _ _ _ _ _ _ _ _ (yv_I_s hI2 (fun j hj => ⟨rfl, fun _ _ => rfl, fun i hi => ra_blk_out (by unfold yv_Q yv_P at hj; omega)⟩)) (t1.trans hK) (t2.trans hC) hMM2 (hSo.1.trans hr)
        (fun i hi => (hSo.2.1 i (by omega)).trans (hdm i hi)) ?_
      refine ra_At_s (am := am) (b := 9 * 32) (M := M) (q := q) (val := fun q i => ra_pl fv (w 1) (w 2) (ra_PA fv v (ra_cx x y fx fy q) (ra_cy x y fx fy q)) i) ha (fun i hi => ?_) (fun i hi => ?_)
      · rw [ra_blk_out (by omega)]
        exact hSo.2.2 i (by omega)
      · rw [← Nat.add_assoc, ra_blk_in hi]
    · exact absurd (hz q hq') he
theorem yp_1 {post : Int32 → SY → Prop} {c v fx fy sx sy mon : Nat} {x y : ra_A} {fv oa ol ov : Int32} {rk0 dm0 am0 lx0 ly0 lm0 lfx0 lfy0 lfr0 lp0 lk0 lc0 lf0 lM0 : Nat → Int32} {rk dm am lx ly lm lfx lfy lfr lp lk lc lf lM : Nat → Int32}
    (hv : v ≤ 12) (h8 : 8 ≤ c) (hc : c ≤ 32) (wx : ra_W c x) (wy : ra_W c y) (hfx : fx ≤ x.1) (hfy : fy ≤ y.1) (hfit : 1 = 1 → x.1 - fx ≤ ra_dL v ∧ y.1 - fy ≤ ra_dR v)
    (hm : mon ≤ 1) (hmv : mon = 0 ↔ 6 ≤ v) (hm0 : mon ≠ 0 → x.1 = 0)
    (hd : ra_dis x y (if fx < fy then fx else fy) = false)
    (hsx : sx < 11) (hsy : sy < 11) (qx : yv_Q 1 sx) (qy : yv_Q 1 sy) (hx0 : mon = 0 → ra_H rk0 dm0 am0 sx x) (hy0 : ra_H rk0 dm0 am0 sy y)
    (hp : ∀ rk' dm' am' lx' ly' lm' lfx' lfy' lfr' lp' lk' lc' lf' lM', (∀ N, N < 1 → yv_E N lx0 ly0 lm0 lfx0 lfy0 lfr0 lp0 lk0 lc0 lf0 lM0 lx' ly' lm' lfx' lfy' lfr' lp' lk' lc' lf' lM') → (∀ j, yv_Q 1 j → ra_S rk0 dm0 am0 rk' dm' am' j) →
      (ra_AE c fv (ra_PE c v) (ra_PA fv v) x y fx fy = 0 → ra_H rk' dm' am' 9 (ra_AA c fv (ra_PE c v) (ra_PA fv v) x y fx fy)) → post (ra_AE c fv (ra_PE c v) (ra_PA fv v) x y fx fy) (nI c, fv, oa, ol, ov, rk', dm', am', lx', ly', lm', lfx', lfy', lfr', lp', lk', lc', lf', lM'))

    (pp : 0 < ra_pos x y fx fy) (hI : yv_I 1 sx sy mon fx fy x y rk0 dm0 am0 lx0 ly0 lm0 lfx0 lfy0 lfr0 lp0 lk0 lc0 lf0 lM0 rk dm am lx ly lm lfx lfy lfr lp lk lc lf lM) : ∃ n, wY_innerA_118 post (nI v) (nI 9) n 0 (nI c) fv oa ol ov rk dm am lx ly lm lfx lfy lfr lp lk lc lf lM := by
  have hokk := ra_P_ok (fl := fv) h8 hc hv
  have hP := ra_pos_le hc wx wy hfx hfy
  have fr3 := ra_fr_3 wx wy hfx hfy
  have hF := ra_F_le wx wy hfx hfy
  refine ⟨3 + 1, ?_⟩
  rw [wY_innerA_118]
  refine br_f (by decide) ?_
  refine ym_prep0 (L := 1) (o := 9) (by decide) (br_t (by decide) ⟨_, yl0_1 hv h8 hc wx wy hfx hfy hfit hm hmv hm0 hd hsx hsy qx qy hx0 hy0 hp ?_ (ra_pos x y fx fy) 0 (Nat.zero_add _) 0 _ _ _ _ _ _ _ _ _ _ _ _ _ _ (yv_I_k hI (fun N hN => ⟨pk_un hN, rfl, fun _ _ => rfl⟩)) pk_us (fun i hi => absurd hi (Nat.not_lt_zero i))⟩)
  intro rk1 dm1 am1 lx1 ly1 lm1 lfx1 lfy1 lfr1 lp1 lk1 lc1 lf1 lM1 hI1 hK1 hz
  have zW : ∀ q, q < ra_pos x y fx fy → ra_W c (ra_PA fv v (ra_cx x y fx fy q) (ra_cy x y fx fy q)) := fun q hq =>
    hokk _ _ (ra_cx_W wx hfx hd hq) (ra_cy_W wy hfy hd hq) (hz q hq)
  have k3 : ra_K (ra_PA fv v) x y fx fy (ra_pos x y fx fy) ≤ 3 := ra_max_le _ fun i hi => (zW i hi).1
  have w32 : ∀ j, j < 3 → ra_w (ra_PA fv v) x y fx fy (ra_pos x y fx fy) j ≤ c := fun j hj => ra_max_le _ fun q hq => ra_lift_le (zW q hq) (by omega) hj
  have eMM : ra_prod (fun i => ra_w (ra_PA fv v) x y fx fy (ra_pos x y fx fy) (i + (3 - ra_K (ra_PA fv v) x y fx fy (ra_pos x y fx fy)))) 0 (ra_K (ra_PA fv v) x y fx fy (ra_pos x y fx fy)) = ra_w (ra_PA fv v) x y fx fy (ra_pos x y fx fy) 0 * ra_w (ra_PA fv v) x y fx fy (ra_pos x y fx fy) 1 * ra_w (ra_PA fv v) x y fx fy (ra_pos x y fx fy) 2 :=
    ra_w3 k3 (ra_w_1 pp)
  have e1 := ra_AE_l (c := c) (fl := fv) (E := ra_PE c v) (R := ra_PA fv v) hd pp hz
  show wY_innerA_118 post (nI v) (nI 9) (2 + 1) (nI 1) (nI c) fv oa ol ov rk1 dm1 am1 lx1 ly1 lm1 lfx1 lfy1 lfr1 lp1 lk1 lc1 lf1 lM1
  rw [wY_innerA_118]
  refine br_f (by decide) ?_
  refine ym_prep1 (L := 1) (o := 9) (by decide) (br_t (by decide) ⟨_, yl1_1 hv h8 hc wx wy hfx hfy hfit hm hmv hm0 hd hsx hsy qx qy hx0 hy0 hp hz rfl ?_ (ra_pos x y fx fy) 0 (Nat.zero_add _) 0 _ _ _ _ _ _ _ _ _ _ _ _ _ _ (yv_I_k hI1 (fun N hN => ⟨rfl, rfl, fun i hi => ra_blk_out (by omega)⟩)) hK1 (fun i hi => ra_blk_in (by omega))⟩)
  intro rk2 dm2 am2 lx2 ly2 lm2 lfx2 lfy2 lfr2 lp2 lk2 lc2 lf2 lM2 hI2 hK2 hM2
  show wY_innerA_118 post (nI v) (nI 9) (1 + 1) (nI 2) (nI c) fv oa ol ov rk2 dm2 am2 lx2 ly2 lm2 lfx2 lfy2 lfr2 lp2 lk2 lc2 lf2 lM2
  rw [wY_innerA_118]
  refine br_f (by decide) ?_
  refine ym_prep2 (L := 1) (o := 9) (by decide) (by decide) hc fr3 k3 hP (m := fun i => ra_w (ra_PA fv v) x y fx fy (ra_pos x y fx fy) (i + (3 - ra_K (ra_PA fv v) x y fx fy (ra_pos x y fx fy)))) (fun i hi => w32 _ (by omega)) hI2.1.2.2.2.2.2.1 hI2.1.2.2.2.2.2.2.1 hI2.1.2.2.2.2.2.2.2 hK2 hM2 ?_ ?_ ?_
  · intro h3
    rw [if_pos (.inl h3)] at e1
    have := hp rk2 dm2 am2 lx2 ly2 lm2 lfx2 lfy2 lfr2 lp2 lk2 lc2 lf2 lM2 hI2.2.1 hI2.2.2 (fun z => absurd (e1.symm.trans z) (by decide))
    rw [e1] at this
    exact br_f (by decide) this
  · intro hl lc' hc'
    rw [eMM] at hl
    rw [if_pos (.inr hl)] at e1
    have hI3 := yv_I_k (lk2 := lk2) (lc2 := lc') (lM2 := lM2) hI2 (fun N hN => ⟨rfl, hc' N hN, fun _ _ => rfl⟩)
    have := hp _ _ _ _ _ _ _ _ _ _ _ _ _ _ hI3.2.1 hI3.2.2 (fun z => absurd (e1.symm.trans z) (by decide))
    rw [e1] at this
    exact br_f (by decide) this
  · intro h3 hl rk' dm' lc' hC hc' hr hdm hS
    rw [eMM] at hl hC
    rw [if_neg (by omega)] at e1
    have hI3 := yv_I_s (rk2 := rk') (dm2 := dm') (am2 := am2) (yv_I_k (lk2 := lk2) (lc2 := lc') (lM2 := lM2) hI2 (fun N hN => ⟨rfl, hc' N hN, fun _ _ => rfl⟩)) (fun j hj => hS j (by unfold yv_Q yv_P at hj; omega))
    refine br_t (by decide) ⟨_, yl2_1 hv h8 hc wx wy hfx hfy hfit hm hmv hm0 hd hsx hsy qx qy hx0 hy0 hp hz rfl rfl rfl pp hl h3 ?_ (ra_pos x y fx fy) 0 (Nat.zero_add _) 0 _ _ _ _ _ _ _ _ _ _ _ _ _ _ hI3 hK2 hC hM2 hr hdm (fun i hi => by rw [Nat.zero_mul] at hi; omega)⟩
    intro rk3 dm3 am3 lx3 ly3 lm3 lfx3 lfy3 lfr3 lp3 lk3 lc3 lf3 lM3 hI4 hAA
    show wY_innerA_118 post (nI v) (nI 9) (0 + 1) (nI 3) (nI c) fv oa ol ov rk3 dm3 am3 lx3 ly3 lm3 lfx3 lfy3 lfr3 lp3 lk3 lc3 lf3 lM3
    rw [wY_innerA_118]
    have := hp rk3 dm3 am3 lx3 ly3 lm3 lfx3 lfy3 lfr3 lp3 lk3 lc3 lf3 lM3 hI4.2.1 hI4.2.2 (fun _ => hAA)
    rw [e1] at this
    exact br_t (by decide) this

theorem yj_1 {post : Int32 → SY → Prop} {c v fx fy sx sy mon : Nat} {x y : ra_A} {fv oa ol ov : Int32} {rk0 dm0 am0 lx0 ly0 lm0 lfx0 lfy0 lfr0 lp0 lk0 lc0 lf0 lM0 : Nat → Int32} {K zs : Nat} {G : Nat → Nat} {zz : Int32} {rk dm am lx ly lm lfx lfy lfr lp lk lc lf lM : Nat → Int32}
    (hv : v ≤ 12) (h8 : 8 ≤ c) (hc : c ≤ 32) (wx : ra_W c x) (wy : ra_W c y) (hfx : fx ≤ x.1) (hfy : fy ≤ y.1) (hfit : 1 = 1 → x.1 - fx ≤ ra_dL v ∧ y.1 - fy ≤ ra_dR v)
    (hm : mon ≤ 1) (hmv : mon = 0 ↔ 6 ≤ v) (hm0 : mon ≠ 0 → x.1 = 0)
    (hd : ra_dis x y (if fx < fy then fx else fy) = false)
    (hsx : sx < 11) (hsy : sy < 11) (qx : yv_Q 1 sx) (qy : yv_Q 1 sy) (hx0 : mon = 0 → ra_H rk0 dm0 am0 sx x) (hy0 : ra_H rk0 dm0 am0 sy y)
    (hp : ∀ rk' dm' am' lx' ly' lm' lfx' lfy' lfr' lp' lk' lc' lf' lM', (∀ N, N < 1 → yv_E N lx0 ly0 lm0 lfx0 lfy0 lfr0 lp0 lk0 lc0 lf0 lM0 lx' ly' lm' lfx' lfy' lfr' lp' lk' lc' lf' lM') → (∀ j, yv_Q 1 j → ra_S rk0 dm0 am0 rk' dm' am' j) →
      (ra_AE c fv (ra_PE c v) (ra_PA fv v) x y fx fy = 0 → ra_H rk' dm' am' 9 (ra_AA c fv (ra_PE c v) (ra_PA fv v) x y fx fy)) → post (ra_AE c fv (ra_PE c v) (ra_PA fv v) x y fx fy) (nI c, fv, oa, ol, ov, rk', dm', am', lx', ly', lm', lfx', lfy', lfr', lp', lk', lc', lf', lM'))

    (p0 : ra_pos x y fx fy = 0) (hI : yv_I 1 sx sy mon fx fy x y rk0 dm0 am0 lx0 ly0 lm0 lfx0 lfy0 lfr0 lp0 lk0 lc0 lf0 lM0 rk dm am lx ly lm lfx lfy lfr lp lk lc lf lM) (eK : K = (ra_S0 c fv (ra_PE c v) (ra_PA fv v) x y fx fy).1) (k3 : K ≤ 3) (eG : ∀ i, i < K → G i = (ra_S0 c fv (ra_PE c v) (ra_PA fv v) x y fx fy).2.1 i)
    (hz : 0 < K → zz = nI zs ∧ zs < 11 ∧ zs ≠ 9 ∧ ∀ i, i < K → dm (zs * 3 + i) = nI (G i)) (hzz : zz < 0 ∧ K = 0 ∨ (zz = nI zs ∧ zs < 11 ∧ rk zs = nI K)) : wY_innerA_105 post 9 zz (nI c) fv oa ol ov rk dm am lx ly lm lfx lfy lfr lp lk lc lf lM := by
  have fr3 := ra_fr_3 wx wy hfx hfy
  have e1 := ra_AE_0 (c := c) (fl := fv) (E := ra_PE c v) (R := ra_PA fv v) hd p0
  rw [← eK] at e1
  have main : ∀ kk, kk = nI K → wY_emptyOut_14 (fun r u => match u with | (cp9, fv9, oa9, ol9, ov9, rk9, dm9, am9, lx9, ly9, lm9, lfx9, lfy9, lfr9, lp9, lk9, lc9, lf9, lM9) => post r (cp9, fv9, oa9, ol9, ov9, rk9, dm9, am9, lx9, ly9, lm9, lfx9, lfy9, lfr9, lp9, lk9, lc9, lf9, lM9)) (nI 1) zz (nI 9) kk (nI c) fv oa ol ov rk dm am lx ly lm lfx lfy lfr lp lk lc lf lM := by
    intro kk ek
    subst ek
    refine ym_eo14 (L := 1) (o := 9) (F := ra_F x y fx fy) (G := G) (by decide) (by decide) fr3 k3 hI.1.2.2.2.2.2.1 hI.1.2.2.2.2.2.2.2 hz ?_ ?_
    · intro h3
      rw [if_pos h3] at e1
      have := hp rk dm am lx ly lm lfx lfy lfr lp lk lc lf lM hI.2.1 hI.2.2 (fun z => absurd (e1.symm.trans z) (by decide))
      rw [e1] at this
      exact this
    · intro h3 rk2 dm2 hr hdm hS
      rw [if_neg (by omega)] at e1
      have hI2 := yv_I_s (rk2 := rk2) (dm2 := dm2) (am2 := am) hI (fun j hj => hS j (by unfold yv_Q yv_P at hj; omega))
      have := hp _ _ _ _ _ _ _ _ _ _ _ _ _ _ hI2.2.1 hI2.2.2 (fun _ => ra_H_A0 p0 eK eG hr hdm)
      rw [e1] at this
      exact this
  unfold wY_innerA_105 wpY_emptyOut
  rcases hzz with ⟨z1, z2⟩ | ⟨z1, z2, z3⟩
  · refine br_f (Int32.not_le.mpr z1) (main 0 ?_)
    rw [z2]; rfl
  · subst z1
    refine br_t (nI_pos' (by omega)) ⟨vp_in_nI z2 (by decide), main _ ?_⟩
    rw [nI_clamp (by omega)]
    exact z3
end
section
/-! the reference: A at the declared ranks, B -/

theorem ym_innerA {post : Int32 → SY → Prop} {c v mon : Nat} {x y : ra_A} {fv oa ol ov : Int32} {rk dm am lx ly lm lfx lfy lfr lp lk lc lf lM : Nat → Int32} (hv : v ≤ 12) (h8 : 8 ≤ c) (hc : c ≤ 32) (wx : ra_W c x) (wy : ra_W c y)
    (hm : mon ≤ 1) (hmv : mon = 0 ↔ 6 ≤ v) (hm0 : mon ≠ 0 → x.1 = 0) (hx0 : mon = 0 → ra_H rk dm am 4 x) (hy0 : ra_H rk dm am 5 y)
    (hp : ∀ rk' dm' am' lx' ly' lm' lfx' lfy' lfr' lp' lk' lc' lf' lM', (∀ N, N < 1 → yv_E N lx ly lm lfx lfy lfr lp lk lc lf lM lx' ly' lm' lfx' lfy' lfr' lp' lk' lc' lf' lM') → (∀ j, yv_Q 1 j → ra_S rk dm am rk' dm' am' j) →
      (ra_BE c fv v x y = 0 → ra_H rk' dm' am' 9 (ra_BA c fv v x y)) → post (ra_BE c fv v x y) (nI c, fv, oa, ol, ov, rk', dm', am', lx', ly', lm', lfx', lfy', lfr', lp', lk', lc', lf', lM')) : wpY_innerA post (nI c, fv, oa, ol, ov, rk, dm, am, lx, ly, lm, lfx, lfy, lfr, lp, lk, lc, lf, lM) (nI v) 4 5 (nI mon) 9 := by
  unfold ra_BE ra_BA at hp
  have x3 := wx.1
  have y3 := wy.1
  have hfit : 1 = 1 → x.1 - (x.1 - ra_eff (nI (ra_dL v)) x.1) ≤ ra_dL v ∧ y.1 - (y.1 - ra_eff (nI (ra_dR v)) y.1) ≤ ra_dR v := fun _ =>
    ⟨ra_fc_fit x3 (by have := ra_dL_1 v; omega), ra_fc_fit y3 (ra_dR_3 v)⟩
  have hfx : x.1 - ra_eff (nI (ra_dL v)) x.1 ≤ x.1 := Nat.sub_le _ _
  have hfy : y.1 - ra_eff (nI (ra_dR v)) y.1 ≤ y.1 := Nat.sub_le _ _
  generalize efx : x.1 - ra_eff (nI (ra_dL v)) x.1 = fx at hp hfit hfx
  generalize efy : y.1 - ra_eff (nI (ra_dR v)) y.1 = fy at hp hfit hfy
  have hsx : 4 < 11 := by decide
  have hsy : 5 < 11 := by decide
  have qx : yv_Q 1 4 := by unfold yv_Q yv_P; omega
  have qy : yv_Q 1 5 := by unfold yv_Q yv_P; omega
  unfold wpY_innerA
  refine ym_drL hv ?_
  intro z6 ez6
  refine ym_drR hv ?_
  refine ym_setup (L := 1) (sx := 4) (sy := 5) (fx := fx) (by decide) hc hsx hsy wx wy hm hx0 hy0 (fun m => by rw [ez6 (hmv.mp m)]; exact efx.symm) (fun m => by have := hm0 m; omega) efy.symm ?_ ?_
  · intro hd rk' dm' am' lx' ly' lm' lfx' lfy' lfr' lp' lk' lc' lf' lM' hE e1 e2 e3
    replace e1 := e1.symm
    replace e2 := e2.symm
    replace e3 := e3.symm
    subst e1 e2 e3
    have e1 := ra_AE_d (c := c) (fl := fv) (E := ra_PE c v) (R := ra_PA fv v) hd
    have := hp _ _ _ _ _ _ _ _ _ _ _ _ _ _ (fun N hN => hE N (Nat.ne_of_lt hN)) (fun _ _ => ra_S_r) (fun z => absurd (e1.symm.trans z) (by decide))
    rw [e1] at this
    exact br_f (by decide) this
  · intro hd rk' dm' am' lx' ly' lm' lfx' lfy' lfr' lp' lk' lc' lf' lM' hV hE e1 e2 e3
    replace e1 := e1.symm
    replace e2 := e2.symm
    replace e3 := e3.symm
    subst e1 e2 e3

    have fr3 := ra_fr_3 wx wy hfx hfy
    have hP := ra_pos_le hc wx wy hfx hfy
    have hokk := ra_P_ok (fl := fv) h8 hc hv
    have hI : yv_I 1 4 5 mon fx fy x y rk dm am lx ly lm lfx lfy lfr lp lk lc lf lM rk dm am lx' ly' lm' lfx' lfy' lfr' lp' lk' lc' lf' lM' := ⟨hV, fun N hN => hE N (Nat.ne_of_lt hN), fun _ _ => ra_S_r⟩
    refine br_t (by decide) ?_
    rw [show lp' 1 = nI (ra_pos x y fx fy) from hV.2.2.2.2.2.2.1, show lfy' 1 = nI fy from hV.2.2.2.2.1]
    by_cases p0 : ra_pos x y fx fy = 0
    · refine br_t (by rw [p0]; rfl) ?_
      refine ym_fillCell (s := 5) (t := 7) hc wy hy0 hsy (by decide) (by unfold yv_Q yv_P at qy; omega) hfy ?_
      intro rk2 dm2 am2 hf2 hS2
      have core : ∀ (fine : Int32) rk3 dm3 am3, (fine = if ra_size x fx ≤ c ∧ ra_size y fy ≤ c then 1 else 0) → (ra_size x fx ≤ c ∧ ra_size y fy ≤ c → (mon = 0 → ra_H rk3 dm3 am3 6 (ra_fc fv x fx)) ∧ ra_H rk3 dm3 am3 7 (ra_fc fv y fy)) →
          (∀ j, j ≠ 6 → j ≠ 7 → ra_S rk dm am rk3 dm3 am3 j) → wY_innerA_79 post (nI v) 9 fine (nI c) fv oa ol ov rk3 dm3 am3 lx' ly' lm' lfx' lfy' lfr' lp' lk' lc' lf' lM' := by
        intro fine rk3 dm3 am3 ef hfc hS3
        have hI3 := yv_I_s (rk2 := rk3) (dm2 := dm3) (am2 := am3) hI (fun j hj => hS3 j (by unfold yv_Q yv_P at hj; omega) (by unfold yv_Q yv_P at hj; omega))
        unfold wY_innerA_79
        by_cases hb : ra_size x fx ≤ c ∧ ra_size y fy ≤ c
        · rw [if_pos hb] at ef
          subst ef
          refine br_f (by decide) ?_
          refine yb_1 (mon := mon) hv h8 hc (ra_fc_W wx hb.1) (ra_fc_W wy hb.2) hfit hm hmv (fun m => by show x.1 - fx = 0; rw [hm0 m]; omega) (hfc hb).1 (hfc hb).2 ?_
          intro z zs rk4 dm4 am4 lx4 ly4 lm4 lfx4 lfy4 lfr4 lp4 lk4 lc4 lf4 lM4 hE4 hS4 hbb
          have hI4 := yv_I_g fr3 hI3 hE4 (fun j hj => hS4 j hj.1)
          rcases hbb with ⟨he, hz11, hzo, hzR, rfl, rfl⟩ | ⟨he, ez⟩
          · have es : ra_S0 c fv (ra_PE c v) (ra_PA fv v) x y fx fy = ra_PA fv v (ra_fc fv x fx) (ra_fc fv y fy) := by
              unfold ra_S0; rw [if_neg (by omega), if_pos he]
            have wz := hokk _ _ (ra_fc_W wx hb.1) (ra_fc_W wy hb.2) he
            refine br_t rfl ?_
            exact yj_1 (zs := 8) (G := (ra_PA fv v (ra_fc fv x fx) (ra_fc fv y fy)).2.1) hv h8 hc wx wy hfx hfy hfit hm hmv hm0 hd hsx hsy qx qy hx0 hy0 hp p0 hI4 (K := (ra_PA fv v (ra_fc fv x fx) (ra_fc fv y fy)).1) (by rw [es]) wz.1 (fun i hi => by rw [es]) (fun _ => ⟨rfl, hz11, hzo, hzR.2.1⟩) (.inr ⟨rfl, hz11, hzR.1⟩)
          · have es : ra_S0 c fv (ra_PE c v) (ra_PA fv v) x y fx fy = ra_sc 0 := by
              unfold ra_S0; rw [if_neg (by omega), if_neg he]
            subst ez
            refine br_f he ?_
            exact yj_1 (zs := 0) (G := fun _ => 0) hv h8 hc wx wy hfx hfy hfit hm hmv hm0 hd hsx hsy qx qy hx0 hy0 hp p0 hI4 (K := 0) (by rw [es]; rfl) (by decide) (fun i hi => absurd hi (Nat.not_lt_zero i)) (fun h => absurd h (Nat.lt_irrefl 0)) (.inl ⟨by decide, rfl⟩)
        · rw [if_neg hb] at ef
          subst ef
          have es : ra_S0 c fv (ra_PE c v) (ra_PA fv v) x y fx fy = ra_sc 0 := by
            unfold ra_S0; rw [if_pos (by omega)]
          refine br_t rfl ?_
          exact yj_1 (zs := 0) (G := fun _ => 0) hv h8 hc wx wy hfx hfy hfit hm hmv hm0 hd hsx hsy qx qy hx0 hy0 hp p0 hI3 (K := 0) (by rw [es]; rfl) (by decide) (fun i hi => absurd hi (Nat.not_lt_zero i)) (fun h => absurd h (Nat.lt_irrefl 0)) (.inl ⟨by decide, rfl⟩)
      by_cases m : mon = 0
      · refine br_t (by rw [m]; rfl) ?_
        dsimp only
        rw [show lfx' 1 = nI fx from hV.2.2.2.1]
        refine ym_fillCell (s := 4) (t := 6) hc wx (ra_H_S (hx0 m) wx hc (hS2 4 (by unfold yv_Q yv_P at qx; omega))) hsx (by decide) (by unfold yv_Q yv_P at qx; omega) hfx ?_
        intro rk3 dm3 am3 hf3 hS3
        have hS23 : ∀ j, j ≠ 6 → j ≠ 7 → ra_S rk dm am rk3 dm3 am3 j := fun j a b => ra_S_t (hS2 j b) (hS3 j a)
        by_cases sx9 : ra_size x fx ≤ c
        · rw [if_pos sx9]
          refine br_f (by decide) (core _ rk3 dm3 am3 ?_ (fun hb => ⟨fun _ => hf3 hb.1, ra_H_S (hf2 hb.2) (ra_fc_W wy hb.2) hc (hS3 _ (by decide))⟩) hS23)
          by_cases sy9 : ra_size y fy ≤ c
          · rw [if_pos sy9, if_pos ⟨sx9, sy9⟩]
          · rw [if_neg sy9, if_neg (fun z => sy9 z.2)]
        · rw [if_neg sx9]
          refine br_t rfl (core _ rk3 dm3 am3 ?_ (fun hb => absurd hb.1 sx9) hS23)
          rw [if_neg (fun z => sx9 z.1)]
      · refine br_f (nI_ne0 (by omega) (by omega)) (core _ rk2 dm2 am2 ?_ (fun hb => ⟨fun z => absurd z m, hf2 hb.2⟩) (fun j _ b => hS2 j b))
        have sx1 : ra_size x fx ≤ c := by
          have : ra_size x fx = 1 := by
            unfold ra_size
            rw [show x.1 - fx = 0 by rw [hm0 m]; omega]; rfl
          omega
        by_cases sy9 : ra_size y fy ≤ c
        · rw [if_pos sy9, if_pos ⟨sx1, sy9⟩]
        · rw [if_neg sy9, if_neg (fun z => sy9 z.2)]
    · have pp : 0 < ra_pos x y fx fy := Nat.pos_of_ne_zero p0
      exact br_f (nI_ne0 pp (by omega)) (yp_1 hv h8 hc wx wy hfx hfy hfit hm hmv hm0 hd hsx hsy qx qy hx0 hy0 hp pp hI)


theorem yb_0 {post : Int32 → SY → Prop} {c v mon : Nat} {x y : ra_A} {fv oa ol ov : Int32} {rk dm am lx ly lm lfx lfy lfr lp lk lc lf lM : Nat → Int32} (hv : v ≤ 12) (h8 : 8 ≤ c) (hc : c ≤ 32) (wx : ra_W c x) (wy : ra_W c y) {fx fy : Nat} {x0 y0 : ra_A} (_ : 0 = 1 → x0.1 - fx ≤ ra_dL v ∧ y0.1 - fy ≤ ra_dR v)
    (hm : mon ≤ 1) (hmv : mon = 0 ↔ 6 ≤ v) (hm0 : mon ≠ 0 → x.1 = 0) (h4 : mon = 0 → ra_H rk dm am 4 x) (h6 : ra_H rk dm am 5 y)
    (hp : ∀ (z : Int32) (zs : Nat) rk2 dm2 am2 lx2 ly2 lm2 lfx2 lfy2 lfr2 lp2 lk2 lc2 lf2 lM2, (∀ N, N ≤ 0 → yv_E N lx ly lm lfx lfy lfr lp lk lc lf lM lx2 ly2 lm2 lfx2 lfy2 lfr2 lp2 lk2 lc2 lf2 lM2) → (∀ j, yv_P 0 j → ra_S rk dm am rk2 dm2 am2 j) →
      ((ra_BE c fv v x y = 0 ∧ zs < 11 ∧ zs ≠ 10 ∧ ra_H rk2 dm2 am2 zs (ra_BA c fv v x y) ∧ z = nI zs) ∨ (ra_BE c fv v x y ≠ 0 ∧ z = ra_BE c fv v x y)) → post z (nI c, fv, oa, ol, ov, rk2, dm2, am2, lx2, ly2, lm2, lfx2, lfy2, lfr2, lp2, lk2, lc2, lf2, lM2)) :
    wpY_evalB post (nI c, fv, oa, ol, ov, rk, dm, am, lx, ly, lm, lfx, lfy, lfr, lp, lk, lc, lf, lM) (nI v) 4 5 (nI mon) := by
  have x3 := wx.1
  have y3 := wy.1
  have d1 := ra_dL_1 v
  have d3 := ra_dR_3 v
  have no : wY_evalB_40 post (nI v) 4 5 (nI mon) (nI c) fv oa ol ov rk dm am lx ly lm lfx lfy lfr lp lk lc lf lM := by
    unfold wY_evalB_40 wY_evalB_41
    refine br_t rfl ?_
    refine ym_innerA hv h8 hc wx wy hm hmv hm0 h4 h6 ?_
    intro rk' dm' am' lx' ly' lm' lfx' lfy' lfr' lp' lk' lc' lf' lM' a b d
    by_cases e : ra_BE c fv v x y = 0
    · refine br_t (by rw [e]; decide) (hp _ 9 _ _ _ _ _ _ _ _ _ _ _ _ _ _ (fun N hN => a N (by omega)) (fun j hj => b j (yv_Q_1.mpr hj)) (.inl ⟨e, by decide, by decide, d e, rfl⟩))
    · exact br_f (Int32.not_le.mpr (ra_BE_n e)) (hp _ 9 _ _ _ _ _ _ _ _ _ _ _ _ _ _ (fun N hN => a N (by omega)) (fun j hj => b j (yv_Q_1.mpr hj)) (.inr ⟨e, rfl⟩))
  have yes : x.1 ≤ ra_dL v → y.1 ≤ ra_dR v → wY_evalB_36 post (nI v) 4 5 (nI mon) (nI c) fv oa ol ov rk dm am lx ly lm lfx lfy lfr lp lk lc lf lM := by
    intro fx1 fy1
    obtain ⟨b1, b2⟩ := ra_B_fit (fl := fv) h8 hc hv wy fx1 fy1
    unfold wY_evalB_36 wY_evalB_41
    refine br_f (by decide) ?_
    refine ym_prim (sx := 4) (sy := 5) (t := 8) hv h8 hc (by decide) (by decide) (by decide) (by decide) (by decide) (fun g => h4 (hmv.mpr g)) h6 wx wy fx1 fy1 ?_
    intro rk' dm' am' a b
    rw [← b1] at b2 b ⊢
    by_cases e : ra_BE c fv v x y = 0
    · exact br_t (by rw [e]; decide) (hp _ 8 rk' dm' am' lx ly lm lfx lfy lfr lp lk lc lf lM (fun _ _ => yv_E_r) (fun j hj => a j hj.1) (.inl ⟨e, by decide, by decide, ra_H_q (b e) (b2 e), rfl⟩))
    · exact br_f (Int32.not_le.mpr (ra_BE_n e)) (hp _ 8 rk' dm' am' lx ly lm lfx lfy lfr lp lk lc lf lM (fun _ _ => yv_E_r) (fun j hj => a j hj.1) (.inr ⟨e, rfl⟩))
  unfold wpY_evalB
  dsimp only
  refine ⟨vp_in_nI (n := 5) (by decide) (by decide), ?_⟩
  refine ym_drR hv ?_
  have k5 : rk (5 : Int32).toNatClampNeg = nI y.1 := h6.1
  rw [k5]
  by_cases g : ra_dR v < y.1
  · exact br_t (nI_lt g (by omega)) no
  · refine br_f (nI_nlt (by omega) (by omega)) ?_
    by_cases m : mon = 0
    · have k4 : rk (4 : Int32).toNatClampNeg = nI x.1 := (h4 m).1
      refine br_f (by rw [m]; decide) ⟨vp_in_nI (n := 4) (by decide) (by decide), ?_⟩
      refine ym_drL hv ?_
      intro z6 ez6
      rw [ez6 (hmv.mp m), k4]
      by_cases g4 : ra_dL v < x.1
      · exact br_t (nI_lt g4 (by omega)) no
      · exact br_f (nI_nlt (by omega) (by omega)) (yes (by omega) (by omega))
    · have m1 : mon = 1 := by omega
      exact br_t (by rw [m1]; rfl) (yes (by rw [hm0 m]; omega) (by omega))
end
section
/-! the reference: A as a call asks for it -/
theorem yl0_0 {post : Int32 → SY → Prop} {c v fx fy sx sy mon : Nat} {x y : ra_A} {fv oa ol ov : Int32} {rk0 dm0 am0 lx0 ly0 lm0 lfx0 lfy0 lfr0 lp0 lk0 lc0 lf0 lM0 : Nat → Int32} {J : Int32 → Int32 → Int32 → Int32 → Int32 → Int32 → (Nat → Int32) → (Nat → Int32) → (Nat → Int32) → (Nat → Int32) → (Nat → Int32) → (Nat → Int32) → (Nat → Int32) → (Nat → Int32) → (Nat → Int32) → (Nat → Int32) → (Nat → Int32) → (Nat → Int32) → (Nat → Int32) → (Nat → Int32) → Prop}
    (hv : v ≤ 12) (h8 : 8 ≤ c) (hc : c ≤ 32) (wx : ra_W c x) (wy : ra_W c y) (hfx : fx ≤ x.1) (hfy : fy ≤ y.1) (hfit : 0 = 1 → x.1 - fx ≤ ra_dL v ∧ y.1 - fy ≤ ra_dR v)
    (hm : mon ≤ 1) (hmv : mon = 0 ↔ 6 ≤ v) (hm0 : mon ≠ 0 → x.1 = 0)
    (hd : ra_dis x y (if fx < fy then fx else fy) = false)
    (hsx : sx < 11) (hsy : sy < 11) (qx : yv_Q 0 sx) (qy : yv_Q 0 sy) (hx0 : mon = 0 → ra_H rk0 dm0 am0 sx x) (hy0 : ra_H rk0 dm0 am0 sy y)
    (hp : ∀ rk' dm' am' lx' ly' lm' lfx' lfy' lfr' lp' lk' lc' lf' lM', (∀ N, N < 0 → yv_E N lx0 ly0 lm0 lfx0 lfy0 lfr0 lp0 lk0 lc0 lf0 lM0 lx' ly' lm' lfx' lfy' lfr' lp' lk' lc' lf' lM') → (∀ j, yv_Q 0 j → ra_S rk0 dm0 am0 rk' dm' am' j) →
      (ra_AE c fv (ra_BE c fv v) (ra_BA c fv v) x y fx fy = 0 → ra_H rk' dm' am' 10 (ra_AA c fv (ra_BE c fv v) (ra_BA c fv v) x y fx fy)) → post (ra_AE c fv (ra_BE c fv v) (ra_BA c fv v) x y fx fy) (nI c, fv, oa, ol, ov, rk', dm', am', lx', ly', lm', lfx', lfy', lfr', lp', lk', lc', lf', lM'))

    (hJ : ∀ rk dm am lx ly lm lfx lfy lfr lp lk lc lf lM, yv_I 0 sx sy mon fx fy x y rk0 dm0 am0 lx0 ly0 lm0 lfx0 lfy0 lfr0 lp0 lk0 lc0 lf0 lM0 rk dm am lx ly lm lfx lfy lfr lp lk lc lf lM → lk 0 = nI (ra_K (ra_BA c fv v) x y fx fy (ra_pos x y fx fy)) → (∀ i, i < ra_pos x y fx fy → ra_BE c fv v (ra_cx x y fx fy i) (ra_cy x y fx fy i) = 0) → J (nI 1) (nI c) fv oa ol ov rk dm am lx ly lm lfx lfy lfr lp lk lc lf lM) :
    ∀ k q, q + k = ra_pos x y fx fy → ∀ n rk dm am lx ly lm lfx lfy lfr lp lk lc lf lM, yv_I 0 sx sy mon fx fy x y rk0 dm0 am0 lx0 ly0 lm0 lfx0 lfy0 lfr0 lp0 lk0 lc0 lf0 lM0 rk dm am lx ly lm lfx lfy lfr lp lk lc lf lM → lk 0 = nI (ra_K (ra_BA c fv v) x y fx fy q) → (∀ i, i < q → ra_BE c fv v (ra_cx x y fx fy i) (ra_cy x y fx fy i) = 0) →
    wY_outerA_129 post J (nI v) (nI mon) (nI 0) (n + k + 1) (nI q) (nI c) fv oa ol ov rk dm am lx ly lm lfx lfy lfr lp lk lc lf lM := by
  have hokk := ra_B_ok (fl := fv) h8 hc hv
  have hP := ra_pos_le hc wx wy hfx hfy
  have fr3 := ra_fr_3 wx wy hfx hfy
  have zW : ∀ q, q < ra_pos x y fx fy → ra_BE c fv v (ra_cx x y fx fy q) (ra_cy x y fx fy q) = 0 → ra_W c (ra_BA c fv v (ra_cx x y fx fy q) (ra_cy x y fx fy q)) := fun q hq =>
    hokk _ _ (ra_cx_W wx hfx hd hq) (ra_cy_W wy hfy hd hq)
  intro k
  induction k with
  | zero =>
    intro q hq n rk dm am lx ly lm lfx lfy lfr lp lk lc lf lM hI hK hz
    have hq' : q = ra_pos x y fx fy := by omega
    rw [hq'] at hK hz
    have hlp : lp 0 = nI (ra_pos x y fx fy) := hI.1.2.2.2.2.2.2.1
    rw [wY_outerA_129]
    exact br_t (show lp 0 ≤ nI q by rw [hlp]; exact nI_le (by omega) (by omega)) (nm_r (nI_1 0) (hJ rk dm am lx ly lm lfx lfy lfr lp lk lc lf lM hI hK hz))
  | succ k ih =>
    intro q hq n rk dm am lx ly lm lfx lfy lfr lp lk lc lf lM hI hK hz
    have hq' : q < ra_pos x y fx fy := by omega
    have hx : mon = 0 → ra_H rk dm am sx x := fun m => ra_H_S (hx0 m) wx hc (hI.2.2 sx qx)
    have hy := ra_H_S hy0 wy hc (hI.2.2 sy qy)
    have hlp : lp 0 = nI (ra_pos x y fx fy) := hI.1.2.2.2.2.2.2.1
    rw [wY_outerA_129]
    refine br_f (show ¬ lp 0 ≤ nI q by rw [hlp]; exact nI_ge hq' (by omega)) ?_
    refine ym_extract (L := 0) (dx := 4) (dy := 5) (by decide) hc hm hI.1 hx hy wx wy hfx hfy hd hq' hsx hsy (by decide) (by decide) (by unfold yv_Q yv_P at qx; omega) (by unfold yv_Q yv_P at qy; omega) (by unfold yv_Q yv_P at qy; omega) (by decide) ?_
    intro rk1 dm1 am1 h4 h6 hS1
    refine yb_0 hv h8 hc (ra_cx_W wx hfx hd hq') (ra_cy_W wy hfy hd hq') hfit hm hmv (fun m => by show x.1 - fx = 0; rw [hm0 m]; omega) h4 h6 ?_
    intro z zs rk2 dm2 am2 lx2 ly2 lm2 lfx2 lfy2 lfr2 lp2 lk2 lc2 lf2 lM2 hE2 hS2 hb
    have hI2 : yv_I 0 sx sy mon fx fy x y rk0 dm0 am0 lx0 ly0 lm0 lfx0 lfy0 lfr0 lp0 lk0 lc0 lf0 lM0 rk2 dm2 am2 lx2 ly2 lm2 lfx2 lfy2 lfr2 lp2 lk2 lc2 lf2 lM2 := yv_I_g fr3 (yv_I_s hI (fun j hj => hS1 j (by unfold yv_Q yv_P at hj; omega) (by unfold yv_Q yv_P at hj; omega))) hE2 (fun j hj => hS2 j hj.1)
    have hK2 := ((yv_E_k (K := 0) (hE2 0 (Nat.le_refl _))).1).trans hK
    rcases hb with ⟨he, hz11, hzo, hzR, rfl⟩ | ⟨he, ez⟩
    · refine br_t (nI_pos' (by omega)) ?_
      have zw := zW q hq' he
      have k3 : ra_K (ra_BA c fv v) x y fx fy q ≤ 3 := ra_max_le _ fun i hi => (zW i (by omega) (hz i hi)).1
      refine ym_absorb0 (L := 0) (by decide) hz11 k3 zw.1 hK2 hzR ?_
      intro lk3 hk3 ho3
      refine nm_r (nI_1 q) ?_
      refine ih (q + 1) (by omega) n _ _ _ _ _ _ _ _ _ _ _ _ _ _ (yv_I_k hI2 (fun N hN => ⟨ho3 N hN, rfl, fun _ _ => rfl⟩)) hk3 (fun i hi => ?_)
      by_cases zz : i = q
      · subst zz; exact he
      · exact hz i (by omega)
    · subst ez
      refine br_f (Int32.not_le.mpr (ra_BE_n he)) ?_
      have e1 := ra_AE_e (c := c) (fl := fv) (E := ra_BE c fv v) (R := ra_BA c fv v) hd hq' hz he
      have := hp _ _ _ _ _ _ _ _ _ _ _ _ _ _ hI2.2.1 hI2.2.2 (fun z => absurd (e1.symm.trans z) he)
      rw [e1] at this
      exact this
theorem yl1_0 {post : Int32 → SY → Prop} {c v fx fy sx sy mon : Nat} {x y : ra_A} {fv oa ol ov : Int32} {rk0 dm0 am0 lx0 ly0 lm0 lfx0 lfy0 lfr0 lp0 lk0 lc0 lf0 lM0 : Nat → Int32} {J : Int32 → Int32 → Int32 → Int32 → Int32 → Int32 → (Nat → Int32) → (Nat → Int32) → (Nat → Int32) → (Nat → Int32) → (Nat → Int32) → (Nat → Int32) → (Nat → Int32) → (Nat → Int32) → (Nat → Int32) → (Nat → Int32) → (Nat → Int32) → (Nat → Int32) → (Nat → Int32) → (Nat → Int32) → Prop} {K : Nat}
    (hv : v ≤ 12) (h8 : 8 ≤ c) (hc : c ≤ 32) (wx : ra_W c x) (wy : ra_W c y) (hfx : fx ≤ x.1) (hfy : fy ≤ y.1) (hfit : 0 = 1 → x.1 - fx ≤ ra_dL v ∧ y.1 - fy ≤ ra_dR v)
    (hm : mon ≤ 1) (hmv : mon = 0 ↔ 6 ≤ v) (hm0 : mon ≠ 0 → x.1 = 0)
    (hd : ra_dis x y (if fx < fy then fx else fy) = false)
    (hsx : sx < 11) (hsy : sy < 11) (qx : yv_Q 0 sx) (qy : yv_Q 0 sy) (hx0 : mon = 0 → ra_H rk0 dm0 am0 sx x) (hy0 : ra_H rk0 dm0 am0 sy y)
    (hp : ∀ rk' dm' am' lx' ly' lm' lfx' lfy' lfr' lp' lk' lc' lf' lM', (∀ N, N < 0 → yv_E N lx0 ly0 lm0 lfx0 lfy0 lfr0 lp0 lk0 lc0 lf0 lM0 lx' ly' lm' lfx' lfy' lfr' lp' lk' lc' lf' lM') → (∀ j, yv_Q 0 j → ra_S rk0 dm0 am0 rk' dm' am' j) →
      (ra_AE c fv (ra_BE c fv v) (ra_BA c fv v) x y fx fy = 0 → ra_H rk' dm' am' 10 (ra_AA c fv (ra_BE c fv v) (ra_BA c fv v) x y fx fy)) → post (ra_AE c fv (ra_BE c fv v) (ra_BA c fv v) x y fx fy) (nI c, fv, oa, ol, ov, rk', dm', am', lx', ly', lm', lfx', lfy', lfr', lp', lk', lc', lf', lM'))

    (hz : ∀ i, i < ra_pos x y fx fy → ra_BE c fv v (ra_cx x y fx fy i) (ra_cy x y fx fy i) = 0) (eK : K = ra_K (ra_BA c fv v) x y fx fy (ra_pos x y fx fy))
    (hJ : ∀ rk dm am lx ly lm lfx lfy lfr lp lk lc lf lM, yv_I 0 sx sy mon fx fy x y rk0 dm0 am0 lx0 ly0 lm0 lfx0 lfy0 lfr0 lp0 lk0 lc0 lf0 lM0 rk dm am lx ly lm lfx lfy lfr lp lk lc lf lM → lk 0 = nI K → (∀ i, i < K → lM (0 * 3 + i) = nI (ra_w (ra_BA c fv v) x y fx fy (ra_pos x y fx fy) (i + (3 - K)))) → J (nI 2) (nI c) fv oa ol ov rk dm am lx ly lm lfx lfy lfr lp lk lc lf lM) :
    ∀ k q, q + k = ra_pos x y fx fy → ∀ n rk dm am lx ly lm lfx lfy lfr lp lk lc lf lM, yv_I 0 sx sy mon fx fy x y rk0 dm0 am0 lx0 ly0 lm0 lfx0 lfy0 lfr0 lp0 lk0 lc0 lf0 lM0 rk dm am lx ly lm lfx lfy lfr lp lk lc lf lM → lk 0 = nI K → (∀ i, i < K → lM (0 * 3 + i) = nI (ra_w (ra_BA c fv v) x y fx fy q (i + (3 - K)))) →
    wY_outerA_129 post J (nI v) (nI mon) (nI 1) (n + k + 1) (nI q) (nI c) fv oa ol ov rk dm am lx ly lm lfx lfy lfr lp lk lc lf lM := by
  have hokk := ra_B_ok (fl := fv) h8 hc hv
  have hP := ra_pos_le hc wx wy hfx hfy
  have fr3 := ra_fr_3 wx wy hfx hfy
  have zW : ∀ q, q < ra_pos x y fx fy → ra_W c (ra_BA c fv v (ra_cx x y fx fy q) (ra_cy x y fx fy q)) := fun q hq =>
    hokk _ _ (ra_cx_W wx hfx hd hq) (ra_cy_W wy hfy hd hq) (hz q hq)
  have k3 : K ≤ 3 := by rw [eK]; exact ra_max_le _ fun i hi => (zW i hi).1
  intro k
  induction k with
  | zero =>
    intro q hq n rk dm am lx ly lm lfx lfy lfr lp lk lc lf lM hI hK hM
    have hq' : q = ra_pos x y fx fy := by omega
    rw [hq'] at hM
    have hlp : lp 0 = nI (ra_pos x y fx fy) := hI.1.2.2.2.2.2.2.1
    rw [wY_outerA_129]
    exact br_t (show lp 0 ≤ nI q by rw [hlp]; exact nI_le (by omega) (by omega)) (nm_r (nI_1 1) (hJ rk dm am lx ly lm lfx lfy lfr lp lk lc lf lM hI hK hM))
  | succ k ih =>
    intro q hq n rk dm am lx ly lm lfx lfy lfr lp lk lc lf lM hI hK hM
    have hq' : q < ra_pos x y fx fy := by omega
    have hx : mon = 0 → ra_H rk dm am sx x := fun m => ra_H_S (hx0 m) wx hc (hI.2.2 sx qx)
    have hy := ra_H_S hy0 wy hc (hI.2.2 sy qy)
    have hlp : lp 0 = nI (ra_pos x y fx fy) := hI.1.2.2.2.2.2.2.1
    rw [wY_outerA_129]
    refine br_f (show ¬ lp 0 ≤ nI q by rw [hlp]; exact nI_ge hq' (by omega)) ?_
    refine ym_extract (L := 0) (dx := 4) (dy := 5) (by decide) hc hm hI.1 hx hy wx wy hfx hfy hd hq' hsx hsy (by decide) (by decide) (by unfold yv_Q yv_P at qx; omega) (by unfold yv_Q yv_P at qy; omega) (by unfold yv_Q yv_P at qy; omega) (by decide) ?_
    intro rk1 dm1 am1 h4 h6 hS1
    refine yb_0 hv h8 hc (ra_cx_W wx hfx hd hq') (ra_cy_W wy hfy hd hq') hfit hm hmv (fun m => by show x.1 - fx = 0; rw [hm0 m]; omega) h4 h6 ?_
    intro z zs rk2 dm2 am2 lx2 ly2 lm2 lfx2 lfy2 lfr2 lp2 lk2 lc2 lf2 lM2 hE2 hS2 hb
    have hI2 : yv_I 0 sx sy mon fx fy x y rk0 dm0 am0 lx0 ly0 lm0 lfx0 lfy0 lfr0 lp0 lk0 lc0 lf0 lM0 rk2 dm2 am2 lx2 ly2 lm2 lfx2 lfy2 lfr2 lp2 lk2 lc2 lf2 lM2 := yv_I_g fr3 (yv_I_s hI (fun j hj => hS1 j (by unfold yv_Q yv_P at hj; omega) (by unfold yv_Q yv_P at hj; omega))) hE2 (fun j hj => hS2 j hj.1)
    obtain ⟨t1, t2, t3⟩ := yv_E_k (K := 0) (hE2 0 (Nat.le_refl _))
    rcases hb with ⟨he, hz11, hzo, hzR, rfl⟩ | ⟨he, ez⟩
    · refine br_t (nI_pos' (by omega)) ?_
      have zK : (ra_BA c fv v (ra_cx x y fx fy q) (ra_cy x y fx fy q)).1 ≤ K := by
        rw [eK]; exact ra_le_max (f := fun q => (ra_BA c fv v (ra_cx x y fx fy q) (ra_cy x y fx fy q)).1) _ q hq'
      refine ym_absorb1 (L := 0) (m := fun i => ra_w (ra_BA c fv v) x y fx fy q (i + (3 - K))) (by decide) hz11 hc (by omega) k3 zK (t1.trans hK) hzR (zW q hq') (fun i hi => ra_max_le _ fun p hp' => ra_lift_le (zW p (by omega)) (by omega) (by omega)) (fun i hi => (t3 i (by omega)).trans (hM i hi)) ?_
      intro lM3 hM3 ho3
      refine nm_r (nI_1 q) ?_
      exact ih (q + 1) (by omega) n _ _ _ _ _ _ _ _ _ _ _ _ _ _ (yv_I_k hI2 (fun N hN => ⟨rfl, rfl, ho3 N hN⟩)) (t1.trans hK) hM3
    · exact absurd (hz q hq') he
theorem yl2_0 {post : Int32 → SY → Prop} {c v fx fy sx sy mon : Nat} {x y : ra_A} {fv oa ol ov : Int32} {rk0 dm0 am0 lx0 ly0 lm0 lfx0 lfy0 lfr0 lp0 lk0 lc0 lf0 lM0 : Nat → Int32} {J : Int32 → Int32 → Int32 → Int32 → Int32 → Int32 → (Nat → Int32) → (Nat → Int32) → (Nat → Int32) → (Nat → Int32) → (Nat → Int32) → (Nat → Int32) → (Nat → Int32) → (Nat → Int32) → (Nat → Int32) → (Nat → Int32) → (Nat → Int32) → (Nat → Int32) → (Nat → Int32) → (Nat → Int32) → Prop} {K M : Nat} {w : Nat → Nat}
    (hv : v ≤ 12) (h8 : 8 ≤ c) (hc : c ≤ 32) (wx : ra_W c x) (wy : ra_W c y) (hfx : fx ≤ x.1) (hfy : fy ≤ y.1) (hfit : 0 = 1 → x.1 - fx ≤ ra_dL v ∧ y.1 - fy ≤ ra_dR v)
    (hm : mon ≤ 1) (hmv : mon = 0 ↔ 6 ≤ v) (hm0 : mon ≠ 0 → x.1 = 0)
    (hd : ra_dis x y (if fx < fy then fx else fy) = false)
    (hsx : sx < 11) (hsy : sy < 11) (qx : yv_Q 0 sx) (qy : yv_Q 0 sy) (hx0 : mon = 0 → ra_H rk0 dm0 am0 sx x) (hy0 : ra_H rk0 dm0 am0 sy y)
    (hp : ∀ rk' dm' am' lx' ly' lm' lfx' lfy' lfr' lp' lk' lc' lf' lM', (∀ N, N < 0 → yv_E N lx0 ly0 lm0 lfx0 lfy0 lfr0 lp0 lk0 lc0 lf0 lM0 lx' ly' lm' lfx' lfy' lfr' lp' lk' lc' lf' lM') → (∀ j, yv_Q 0 j → ra_S rk0 dm0 am0 rk' dm' am' j) →
      (ra_AE c fv (ra_BE c fv v) (ra_BA c fv v) x y fx fy = 0 → ra_H rk' dm' am' 10 (ra_AA c fv (ra_BE c fv v) (ra_BA c fv v) x y fx fy)) → post (ra_AE c fv (ra_BE c fv v) (ra_BA c fv v) x y fx fy) (nI c, fv, oa, ol, ov, rk', dm', am', lx', ly', lm', lfx', lfy', lfr', lp', lk', lc', lf', lM'))

    (hz : ∀ i, i < ra_pos x y fx fy → ra_BE c fv v (ra_cx x y fx fy i) (ra_cy x y fx fy i) = 0) (eK : K = ra_K (ra_BA c fv v) x y fx fy (ra_pos x y fx fy)) (ew : w = ra_w (ra_BA c fv v) x y fx fy (ra_pos x y fx fy)) (eM : M = w 0 * w 1 * w 2) (pp : 0 < ra_pos x y fx fy)
    (hM : ra_pos x y fx fy * M ≤ c) (hK3 : ra_fr fx fy + K ≤ 3)
    (hJ : ∀ rk dm am lx ly lm lfx lfy lfr lp lk lc lf lM, yv_I 0 sx sy mon fx fy x y rk0 dm0 am0 lx0 ly0 lm0 lfx0 lfy0 lfr0 lp0 lk0 lc0 lf0 lM0 rk dm am lx ly lm lfx lfy lfr lp lk lc lf lM → ra_H rk dm am 10 (ra_AA c fv (ra_BE c fv v) (ra_BA c fv v) x y fx fy) → J (nI 3) (nI c) fv oa ol ov rk dm am lx ly lm lfx lfy lfr lp lk lc lf lM) :
    ∀ k q, q + k = ra_pos x y fx fy → ∀ n rk dm am lx ly lm lfx lfy lfr lp lk lc lf lM, yv_I 0 sx sy mon fx fy x y rk0 dm0 am0 lx0 ly0 lm0 lfx0 lfy0 lfr0 lp0 lk0 lc0 lf0 lM0 rk dm am lx ly lm lfx lfy lfr lp lk lc lf lM → lk 0 = nI K → lc 0 = nI M → (∀ i, i < K → lM (0 * 3 + i) = nI (w (i + (3 - K)))) → rk 10 = nI (ra_fr fx fy + K) →
    (∀ i, i < ra_fr fx fy + K → dm (10 * 3 + i) = nI (if i < ra_fr fx fy then ra_F x y fx fy i else w (i - ra_fr fx fy + (3 - K)))) →
    (∀ i, i < q * M → am (10 * 32 + i) = (fun q i => ra_pl fv (w 1) (w 2) (ra_BA c fv v (ra_cx x y fx fy q) (ra_cy x y fx fy q)) i) (i / M) (i % M)) →
    wY_outerA_129 post J (nI v) (nI mon) (nI 2) (n + k + 1) (nI q) (nI c) fv oa ol ov rk dm am lx ly lm lfx lfy lfr lp lk lc lf lM := by
  have hokk := ra_B_ok (fl := fv) h8 hc hv
  have hP := ra_pos_le hc wx wy hfx hfy
  have fr3 := ra_fr_3 wx wy hfx hfy
  have zW : ∀ q, q < ra_pos x y fx fy → ra_W c (ra_BA c fv v (ra_cx x y fx fy q) (ra_cy x y fx fy q)) := fun q hq =>
    hokk _ _ (ra_cx_W wx hfx hd hq) (ra_cy_W wy hfy hd hq) (hz q hq)
  have w32 : ∀ j, j < 3 → w j ≤ c := fun j hj => by rw [ew]; exact ra_max_le _ fun q hq => ra_lift_le (zW q hq) (by omega) hj
  have w1 : ∀ j, j < 3 - K → w j = 1 := fun j hj => by rw [ew]; rw [eK] at hj; exact ra_w_1 pp j hj
  intro k
  induction k with
  | zero =>
    intro q hq n rk dm am lx ly lm lfx lfy lfr lp lk lc lf lM hI hK hC hMM hr hdm ha
    have hq' : q = ra_pos x y fx fy := by omega
    rw [hq'] at ha
    have hlp : lp 0 = nI (ra_pos x y fx fy) := hI.1.2.2.2.2.2.2.1
    rw [wY_outerA_129]
    exact br_t (show lp 0 ≤ nI q by rw [hlp]; exact nI_le (by omega) (by omega)) (nm_r (nI_1 2) (hJ rk dm am lx ly lm lfx lfy lfr lp lk lc lf lM hI (ra_H_AA pp rfl eK ew eM rfl (by omega) hr hdm ha)))
  | succ k ih =>
    intro q hq n rk dm am lx ly lm lfx lfy lfr lp lk lc lf lM hI hK hC hMM hr hdm ha
    have hq' : q < ra_pos x y fx fy := by omega
    have hx : mon = 0 → ra_H rk dm am sx x := fun m => ra_H_S (hx0 m) wx hc (hI.2.2 sx qx)
    have hy := ra_H_S hy0 wy hc (hI.2.2 sy qy)
    have hlp : lp 0 = nI (ra_pos x y fx fy) := hI.1.2.2.2.2.2.2.1
    rw [wY_outerA_129]
    refine br_f (show ¬ lp 0 ≤ nI q by rw [hlp]; exact nI_ge hq' (by omega)) ?_
    refine ym_extract (L := 0) (dx := 4) (dy := 5) (by decide) hc hm hI.1 hx hy wx wy hfx hfy hd hq' hsx hsy (by decide) (by decide) (by unfold yv_Q yv_P at qx; omega) (by unfold yv_Q yv_P at qy; omega) (by unfold yv_Q yv_P at qy; omega) (by decide) ?_
    intro rk1 dm1 am1 h4 h6 hS1
    refine yb_0 hv h8 hc (ra_cx_W wx hfx hd hq') (ra_cy_W wy hfy hd hq') hfit hm hmv (fun m => by show x.1 - fx = 0; rw [hm0 m]; omega) h4 h6 ?_
    intro z zs rk2 dm2 am2 lx2 ly2 lm2 lfx2 lfy2 lfr2 lp2 lk2 lc2 lf2 lM2 hE2 hS2 hb
    have hI2 : yv_I 0 sx sy mon fx fy x y rk0 dm0 am0 lx0 ly0 lm0 lfx0 lfy0 lfr0 lp0 lk0 lc0 lf0 lM0 rk2 dm2 am2 lx2 ly2 lm2 lfx2 lfy2 lfr2 lp2 lk2 lc2 lf2 lM2 := yv_I_g fr3 (yv_I_s hI (fun j hj => hS1 j (by unfold yv_Q yv_P at hj; omega) (by unfold yv_Q yv_P at hj; omega))) hE2 (fun j hj => hS2 j hj.1)
    obtain ⟨t1, t2, t3⟩ := yv_E_k (K := 0) (hE2 0 (Nat.le_refl _))
    have hSo : ra_S rk dm am rk2 dm2 am2 10 := ra_S_t (hS1 _ (by decide) (by decide)) (hS2 _ (by unfold yv_P; decide))
    have hqM : q * M + M ≤ 32 := by
      have : (q + 1) * M ≤ ra_pos x y fx fy * M := Nat.mul_le_mul_right _ hq'
      rw [Nat.succ_mul] at this; omega
    rcases hb with ⟨he, hz11, hzo, hzR, rfl⟩ | ⟨he, ez⟩
    · refine br_t (nI_pos' (by omega)) ?_
      have zK : (ra_BA c fv v (ra_cx x y fx fy q) (ra_cy x y fx fy q)).1 ≤ K := by
        rw [eK]; exact ra_le_max (f := fun q => (ra_BA c fv v (ra_cx x y fx fy q) (ra_cy x y fx fy q)).1) _ q hq'
      have hMM2 : ∀ i, i < K → lM2 (0 * 3 + i) = nI (w (i + (3 - K))) := fun i hi => (t3 i (by omega)).trans (hMM i hi)
      refine ym_absorb2 (L := 0) (o := 10) (w := w) (M := M) (by decide) hz11 (by decide) hzo hc (by omega) (by omega) zK hzR (zW q hq') w32 w1 (t1.trans hK) (t2.trans hC) hMM2 eM hqM ?_
      refine nm_r (nI_1 q) ?_
      refine ih (q + 1) (by omega) n _ _ _ _ _ _ _ _ _ _ _ _ _ _ (yv_I_s hI2 (fun j hj => ⟨rfl, fun _ _ => rfl, fun i hi => ra_blk_out (by unfold yv_Q yv_P at hj; omega)⟩)) (t1.trans hK) (t2.trans hC) hMM2 (hSo.1.trans hr)
        (fun i hi => (hSo.2.1 i (by omega)).trans (hdm i hi)) ?_
      refine ra_At_s (am := am) (b := 10 * 32) (M := M) (q := q) (val := fun q i => ra_pl fv (w 1) (w 2) (ra_BA c fv v (ra_cx x y fx fy q) (ra_cy x y fx fy q)) i) ha (fun i hi => ?_) (fun i hi => ?_)
      · rw [ra_blk_out (by omega)]
        exact hSo.2.2 i (by omega)
      · rw [← Nat.add_assoc, ra_blk_in hi]
    · exact absurd (hz q hq') he
theorem yp_0 {post : Int32 → SY → Prop} {c v fx fy sx sy mon : Nat} {x y : ra_A} {fv oa ol ov : Int32} {rk0 dm0 am0 lx0 ly0 lm0 lfx0 lfy0 lfr0 lp0 lk0 lc0 lf0 lM0 : Nat → Int32} {rk dm am lx ly lm lfx lfy lfr lp lk lc lf lM : Nat → Int32}
    (hv : v ≤ 12) (h8 : 8 ≤ c) (hc : c ≤ 32) (wx : ra_W c x) (wy : ra_W c y) (hfx : fx ≤ x.1) (hfy : fy ≤ y.1) (hfit : 0 = 1 → x.1 - fx ≤ ra_dL v ∧ y.1 - fy ≤ ra_dR v)
    (hm : mon ≤ 1) (hmv : mon = 0 ↔ 6 ≤ v) (hm0 : mon ≠ 0 → x.1 = 0)
    (hd : ra_dis x y (if fx < fy then fx else fy) = false)
    (hsx : sx < 11) (hsy : sy < 11) (qx : yv_Q 0 sx) (qy : yv_Q 0 sy) (hx0 : mon = 0 → ra_H rk0 dm0 am0 sx x) (hy0 : ra_H rk0 dm0 am0 sy y)
    (hp : ∀ rk' dm' am' lx' ly' lm' lfx' lfy' lfr' lp' lk' lc' lf' lM', (∀ N, N < 0 → yv_E N lx0 ly0 lm0 lfx0 lfy0 lfr0 lp0 lk0 lc0 lf0 lM0 lx' ly' lm' lfx' lfy' lfr' lp' lk' lc' lf' lM') → (∀ j, yv_Q 0 j → ra_S rk0 dm0 am0 rk' dm' am' j) →
      (ra_AE c fv (ra_BE c fv v) (ra_BA c fv v) x y fx fy = 0 → ra_H rk' dm' am' 10 (ra_AA c fv (ra_BE c fv v) (ra_BA c fv v) x y fx fy)) → post (ra_AE c fv (ra_BE c fv v) (ra_BA c fv v) x y fx fy) (nI c, fv, oa, ol, ov, rk', dm', am', lx', ly', lm', lfx', lfy', lfr', lp', lk', lc', lf', lM'))

    (pp : 0 < ra_pos x y fx fy) (hI : yv_I 0 sx sy mon fx fy x y rk0 dm0 am0 lx0 ly0 lm0 lfx0 lfy0 lfr0 lp0 lk0 lc0 lf0 lM0 rk dm am lx ly lm lfx lfy lfr lp lk lc lf lM) : ∃ n, wY_outerA_101 post (nI v) (nI mon) n 0 (nI c) fv oa ol ov rk dm am lx ly lm lfx lfy lfr lp lk lc lf lM := by
  have hokk := ra_B_ok (fl := fv) h8 hc hv
  have hP := ra_pos_le hc wx wy hfx hfy
  have fr3 := ra_fr_3 wx wy hfx hfy
  have hF := ra_F_le wx wy hfx hfy
  refine ⟨3 + 1, ?_⟩
  rw [wY_outerA_101]
  refine br_f (by decide) ?_
  refine ym_prep0 (L := 0) (o := 10) (by decide) (br_t (by decide) ⟨_, yl0_0 hv h8 hc wx wy hfx hfy hfit hm hmv hm0 hd hsx hsy qx qy hx0 hy0 hp ?_ (ra_pos x y fx fy) 0 (Nat.zero_add _) 0 _ _ _ _ _ _ _ _ _ _ _ _ _ _ (yv_I_k hI (fun N hN => ⟨pk_un hN, rfl, fun _ _ => rfl⟩)) pk_us (fun i hi => absurd hi (Nat.not_lt_zero i))⟩)
  intro rk1 dm1 am1 lx1 ly1 lm1 lfx1 lfy1 lfr1 lp1 lk1 lc1 lf1 lM1 hI1 hK1 hz
  have zW : ∀ q, q < ra_pos x y fx fy → ra_W c (ra_BA c fv v (ra_cx x y fx fy q) (ra_cy x y fx fy q)) := fun q hq =>
    hokk _ _ (ra_cx_W wx hfx hd hq) (ra_cy_W wy hfy hd hq) (hz q hq)
  have k3 : ra_K (ra_BA c fv v) x y fx fy (ra_pos x y fx fy) ≤ 3 := ra_max_le _ fun i hi => (zW i hi).1
  have w32 : ∀ j, j < 3 → ra_w (ra_BA c fv v) x y fx fy (ra_pos x y fx fy) j ≤ c := fun j hj => ra_max_le _ fun q hq => ra_lift_le (zW q hq) (by omega) hj
  have eMM : ra_prod (fun i => ra_w (ra_BA c fv v) x y fx fy (ra_pos x y fx fy) (i + (3 - ra_K (ra_BA c fv v) x y fx fy (ra_pos x y fx fy)))) 0 (ra_K (ra_BA c fv v) x y fx fy (ra_pos x y fx fy)) = ra_w (ra_BA c fv v) x y fx fy (ra_pos x y fx fy) 0 * ra_w (ra_BA c fv v) x y fx fy (ra_pos x y fx fy) 1 * ra_w (ra_BA c fv v) x y fx fy (ra_pos x y fx fy) 2 :=
    ra_w3 k3 (ra_w_1 pp)
  have e1 := ra_AE_l (c := c) (fl := fv) (E := ra_BE c fv v) (R := ra_BA c fv v) hd pp hz
  show wY_outerA_101 post (nI v) (nI mon) (2 + 1) (nI 1) (nI c) fv oa ol ov rk1 dm1 am1 lx1 ly1 lm1 lfx1 lfy1 lfr1 lp1 lk1 lc1 lf1 lM1
  rw [wY_outerA_101]
  refine br_f (by decide) ?_
  refine ym_prep1 (L := 0) (o := 10) (by decide) (br_t (by decide) ⟨_, yl1_0 hv h8 hc wx wy hfx hfy hfit hm hmv hm0 hd hsx hsy qx qy hx0 hy0 hp hz rfl ?_ (ra_pos x y fx fy) 0 (Nat.zero_add _) 0 _ _ _ _ _ _ _ _ _ _ _ _ _ _ (yv_I_k hI1 (fun N hN => ⟨rfl, rfl, fun i hi => ra_blk_out (by omega)⟩)) hK1 (fun i hi => ra_blk_in (by omega))⟩)
  intro rk2 dm2 am2 lx2 ly2 lm2 lfx2 lfy2 lfr2 lp2 lk2 lc2 lf2 lM2 hI2 hK2 hM2
  show wY_outerA_101 post (nI v) (nI mon) (1 + 1) (nI 2) (nI c) fv oa ol ov rk2 dm2 am2 lx2 ly2 lm2 lfx2 lfy2 lfr2 lp2 lk2 lc2 lf2 lM2
  rw [wY_outerA_101]
  refine br_f (by decide) ?_
  refine ym_prep2 (L := 0) (o := 10) (by decide) (by decide) hc fr3 k3 hP (m := fun i => ra_w (ra_BA c fv v) x y fx fy (ra_pos x y fx fy) (i + (3 - ra_K (ra_BA c fv v) x y fx fy (ra_pos x y fx fy)))) (fun i hi => w32 _ (by omega)) hI2.1.2.2.2.2.2.1 hI2.1.2.2.2.2.2.2.1 hI2.1.2.2.2.2.2.2.2 hK2 hM2 ?_ ?_ ?_
  · intro h3
    rw [if_pos (.inl h3)] at e1
    have := hp rk2 dm2 am2 lx2 ly2 lm2 lfx2 lfy2 lfr2 lp2 lk2 lc2 lf2 lM2 hI2.2.1 hI2.2.2 (fun z => absurd (e1.symm.trans z) (by decide))
    rw [e1] at this
    exact br_f (by decide) this
  · intro hl lc' hc'
    rw [eMM] at hl
    rw [if_pos (.inr hl)] at e1
    have hI3 := yv_I_k (lk2 := lk2) (lc2 := lc') (lM2 := lM2) hI2 (fun N hN => ⟨rfl, hc' N hN, fun _ _ => rfl⟩)
    have := hp _ _ _ _ _ _ _ _ _ _ _ _ _ _ hI3.2.1 hI3.2.2 (fun z => absurd (e1.symm.trans z) (by decide))
    rw [e1] at this
    exact br_f (by decide) this
  · intro h3 hl rk' dm' lc' hC hc' hr hdm hS
    rw [eMM] at hl hC
    rw [if_neg (by omega)] at e1
    have hI3 := yv_I_s (rk2 := rk') (dm2 := dm') (am2 := am2) (yv_I_k (lk2 := lk2) (lc2 := lc') (lM2 := lM2) hI2 (fun N hN => ⟨rfl, hc' N hN, fun _ _ => rfl⟩)) (fun j hj => hS j (by unfold yv_Q yv_P at hj; omega))
    refine br_t (by decide) ⟨_, yl2_0 hv h8 hc wx wy hfx hfy hfit hm hmv hm0 hd hsx hsy qx qy hx0 hy0 hp hz rfl rfl rfl pp hl h3 ?_ (ra_pos x y fx fy) 0 (Nat.zero_add _) 0 _ _ _ _ _ _ _ _ _ _ _ _ _ _ hI3 hK2 hC hM2 hr hdm (fun i hi => by rw [Nat.zero_mul] at hi; omega)⟩
    intro rk3 dm3 am3 lx3 ly3 lm3 lfx3 lfy3 lfr3 lp3 lk3 lc3 lf3 lM3 hI4 hAA
    show wY_outerA_101 post (nI v) (nI mon) (0 + 1) (nI 3) (nI c) fv oa ol ov rk3 dm3 am3 lx3 ly3 lm3 lfx3 lfy3 lfr3 lp3 lk3 lc3 lf3 lM3
    rw [wY_outerA_101]
    have := hp rk3 dm3 am3 lx3 ly3 lm3 lfx3 lfy3 lfr3 lp3 lk3 lc3 lf3 lM3 hI4.2.1 hI4.2.2 (fun _ => hAA)
    rw [e1] at this
    exact br_t (by decide) this

theorem yj_0 {post : Int32 → SY → Prop} {c v fx fy sx sy mon : Nat} {x y : ra_A} {fv oa ol ov : Int32} {rk0 dm0 am0 lx0 ly0 lm0 lfx0 lfy0 lfr0 lp0 lk0 lc0 lf0 lM0 : Nat → Int32} {K zs : Nat} {G : Nat → Nat} {zz : Int32} {rk dm am lx ly lm lfx lfy lfr lp lk lc lf lM : Nat → Int32}
    (hv : v ≤ 12) (h8 : 8 ≤ c) (hc : c ≤ 32) (wx : ra_W c x) (wy : ra_W c y) (hfx : fx ≤ x.1) (hfy : fy ≤ y.1) (hfit : 0 = 1 → x.1 - fx ≤ ra_dL v ∧ y.1 - fy ≤ ra_dR v)
    (hm : mon ≤ 1) (hmv : mon = 0 ↔ 6 ≤ v) (hm0 : mon ≠ 0 → x.1 = 0)
    (hd : ra_dis x y (if fx < fy then fx else fy) = false)
    (hsx : sx < 11) (hsy : sy < 11) (qx : yv_Q 0 sx) (qy : yv_Q 0 sy) (hx0 : mon = 0 → ra_H rk0 dm0 am0 sx x) (hy0 : ra_H rk0 dm0 am0 sy y)
    (hp : ∀ rk' dm' am' lx' ly' lm' lfx' lfy' lfr' lp' lk' lc' lf' lM', (∀ N, N < 0 → yv_E N lx0 ly0 lm0 lfx0 lfy0 lfr0 lp0 lk0 lc0 lf0 lM0 lx' ly' lm' lfx' lfy' lfr' lp' lk' lc' lf' lM') → (∀ j, yv_Q 0 j → ra_S rk0 dm0 am0 rk' dm' am' j) →
      (ra_AE c fv (ra_BE c fv v) (ra_BA c fv v) x y fx fy = 0 → ra_H rk' dm' am' 10 (ra_AA c fv (ra_BE c fv v) (ra_BA c fv v) x y fx fy)) → post (ra_AE c fv (ra_BE c fv v) (ra_BA c fv v) x y fx fy) (nI c, fv, oa, ol, ov, rk', dm', am', lx', ly', lm', lfx', lfy', lfr', lp', lk', lc', lf', lM'))

    (p0 : ra_pos x y fx fy = 0) (hI : yv_I 0 sx sy mon fx fy x y rk0 dm0 am0 lx0 ly0 lm0 lfx0 lfy0 lfr0 lp0 lk0 lc0 lf0 lM0 rk dm am lx ly lm lfx lfy lfr lp lk lc lf lM) (eK : K = (ra_S0 c fv (ra_BE c fv v) (ra_BA c fv v) x y fx fy).1) (k3 : K ≤ 3) (eG : ∀ i, i < K → G i = (ra_S0 c fv (ra_BE c fv v) (ra_BA c fv v) x y fx fy).2.1 i)
    (hz : 0 < K → zz = nI zs ∧ zs < 11 ∧ zs ≠ 10 ∧ ∀ i, i < K → dm (zs * 3 + i) = nI (G i)) (hzz : zz < 0 ∧ K = 0 ∨ (zz = nI zs ∧ zs < 11 ∧ rk zs = nI K)) : wY_outerA_88 post  zz (nI c) fv oa ol ov rk dm am lx ly lm lfx lfy lfr lp lk lc lf lM := by
  have fr3 := ra_fr_3 wx wy hfx hfy
  have e1 := ra_AE_0 (c := c) (fl := fv) (E := ra_BE c fv v) (R := ra_BA c fv v) hd p0
  rw [← eK] at e1
  have main : ∀ kk, kk = nI K → wY_emptyOut_14 (fun r u => match u with | (cp9, fv9, oa9, ol9, ov9, rk9, dm9, am9, lx9, ly9, lm9, lfx9, lfy9, lfr9, lp9, lk9, lc9, lf9, lM9) => post r (cp9, fv9, oa9, ol9, ov9, rk9, dm9, am9, lx9, ly9, lm9, lfx9, lfy9, lfr9, lp9, lk9, lc9, lf9, lM9)) (nI 0) zz (nI 10) kk (nI c) fv oa ol ov rk dm am lx ly lm lfx lfy lfr lp lk lc lf lM := by
    intro kk ek
    subst ek
    refine ym_eo14 (L := 0) (o := 10) (F := ra_F x y fx fy) (G := G) (by decide) (by decide) fr3 k3 hI.1.2.2.2.2.2.1 hI.1.2.2.2.2.2.2.2 hz ?_ ?_
    · intro h3
      rw [if_pos h3] at e1
      have := hp rk dm am lx ly lm lfx lfy lfr lp lk lc lf lM hI.2.1 hI.2.2 (fun z => absurd (e1.symm.trans z) (by decide))
      rw [e1] at this
      exact this
    · intro h3 rk2 dm2 hr hdm hS
      rw [if_neg (by omega)] at e1
      have hI2 := yv_I_s (rk2 := rk2) (dm2 := dm2) (am2 := am) hI (fun j hj => hS j (by unfold yv_Q yv_P at hj; omega))
      have := hp _ _ _ _ _ _ _ _ _ _ _ _ _ _ hI2.2.1 hI2.2.2 (fun _ => ra_H_A0 p0 eK eG hr hdm)
      rw [e1] at this
      exact this
  unfold wY_outerA_88 wpY_emptyOut
  rcases hzz with ⟨z1, z2⟩ | ⟨z1, z2, z3⟩
  · refine br_f (Int32.not_le.mpr z1) (main 0 ?_)
    rw [z2]; rfl
  · subst z1
    refine br_t (nI_pos' (by omega)) ⟨vp_in_nI z2 (by decide), main _ ?_⟩
    rw [nI_clamp (by omega)]
    exact z3


theorem ym_outerA {post : Int32 → SY → Prop} {c v mon sx sy : Nat} {x y : ra_A} {l r : Int32} {fv oa ol ov : Int32} {rk dm am lx ly lm lfx lfy lfr lp lk lc lf lM : Nat → Int32} (hv : v ≤ 12) (h8 : 8 ≤ c) (hc : c ≤ 32) (wx : ra_W c x) (wy : ra_W c y)
    (hm : mon ≤ 1) (hmv : mon = 0 ↔ 6 ≤ v) (hm0 : mon ≠ 0 → x.1 = 0) (hsx : sx < 11) (hsy : sy < 11) (qx : yv_Q 0 sx) (qy : yv_Q 0 sy) (hx0 : mon = 0 → ra_H rk dm am sx x) (hy0 : ra_H rk dm am sy y)
    (hp : ∀ rk' dm' am' lx' ly' lm' lfx' lfy' lfr' lp' lk' lc' lf' lM', (∀ N, N < 0 → yv_E N lx ly lm lfx lfy lfr lp lk lc lf lM lx' ly' lm' lfx' lfy' lfr' lp' lk' lc' lf' lM') → (∀ j, yv_Q 0 j → ra_S rk dm am rk' dm' am' j) →
      (ra_OE c fv v x y l r = 0 → ra_H rk' dm' am' 10 (ra_OA c fv v x y l r)) → post (ra_OE c fv v x y l r) (nI c, fv, oa, ol, ov, rk', dm', am', lx', ly', lm', lfx', lfy', lfr', lp', lk', lc', lf', lM')) : wpY_outerA post (nI c, fv, oa, ol, ov, rk, dm, am, lx, ly, lm, lfx, lfy, lfr, lp, lk, lc, lf, lM) (nI v) (nI sx) (nI sy) l r (nI mon) := by
  unfold ra_OE ra_OA at hp
  have hfx : x.1 - ra_eff l x.1 ≤ x.1 := Nat.sub_le _ _
  have hfy : y.1 - ra_eff r y.1 ≤ y.1 := Nat.sub_le _ _
  generalize efx : x.1 - ra_eff l x.1 = fx at hp hfx
  generalize efy : y.1 - ra_eff r y.1 = fy at hp hfy
  have hfit : 0 = 1 → x.1 - fx ≤ ra_dL v ∧ y.1 - fy ≤ ra_dR v := fun z => absurd z (by decide)
  unfold wpY_outerA
  refine ym_setup (L := 0) (fx := fx) (by decide) hc hsx hsy wx wy hm hx0 hy0 (fun m => efx.symm) (fun m => by have := hm0 m; omega) efy.symm ?_ ?_
  · intro hd rk' dm' am' lx' ly' lm' lfx' lfy' lfr' lp' lk' lc' lf' lM' hE e1 e2 e3
    replace e1 := e1.symm
    replace e2 := e2.symm
    replace e3 := e3.symm
    subst e1 e2 e3
    have e1 := ra_AE_d (c := c) (fl := fv) (E := ra_BE c fv v) (R := ra_BA c fv v) hd
    have := hp _ _ _ _ _ _ _ _ _ _ _ _ _ _ (fun N hN => hE N (Nat.ne_of_lt hN)) (fun _ _ => ra_S_r) (fun z => absurd (e1.symm.trans z) (by decide))
    rw [e1] at this
    exact br_f (by decide) this
  · intro hd rk' dm' am' lx' ly' lm' lfx' lfy' lfr' lp' lk' lc' lf' lM' hV hE e1 e2 e3
    replace e1 := e1.symm
    replace e2 := e2.symm
    replace e3 := e3.symm
    subst e1 e2 e3

    have fr3 := ra_fr_3 wx wy hfx hfy
    have hP := ra_pos_le hc wx wy hfx hfy
    have hokk := ra_B_ok (fl := fv) h8 hc hv
    have hI : yv_I 0 sx sy mon fx fy x y rk dm am lx ly lm lfx lfy lfr lp lk lc lf lM rk dm am lx' ly' lm' lfx' lfy' lfr' lp' lk' lc' lf' lM' := ⟨hV, fun N hN => hE N (Nat.ne_of_lt hN), fun _ _ => ra_S_r⟩
    refine br_t (by decide) ?_
    rw [show lp' 0 = nI (ra_pos x y fx fy) from hV.2.2.2.2.2.2.1, show lfy' 0 = nI fy from hV.2.2.2.2.1]
    by_cases p0 : ra_pos x y fx fy = 0
    · refine br_t (by rw [p0]; rfl) ?_
      refine ym_fillCell (s := sy) (t := 5) hc wy hy0 hsy (by decide) (by unfold yv_Q yv_P at qy; omega) hfy ?_
      intro rk2 dm2 am2 hf2 hS2
      have core : ∀ (fine : Int32) rk3 dm3 am3, (fine = if ra_size x fx ≤ c ∧ ra_size y fy ≤ c then 1 else 0) → (ra_size x fx ≤ c ∧ ra_size y fy ≤ c → (mon = 0 → ra_H rk3 dm3 am3 4 (ra_fc fv x fx)) ∧ ra_H rk3 dm3 am3 5 (ra_fc fv y fy)) →
          (∀ j, j ≠ 4 → j ≠ 5 → ra_S rk dm am rk3 dm3 am3 j) → wY_outerA_69 post (nI v) (nI mon) fine (nI c) fv oa ol ov rk3 dm3 am3 lx' ly' lm' lfx' lfy' lfr' lp' lk' lc' lf' lM' := by
        intro fine rk3 dm3 am3 ef hfc hS3
        have hI3 := yv_I_s (rk2 := rk3) (dm2 := dm3) (am2 := am3) hI (fun j hj => hS3 j (by unfold yv_Q yv_P at hj; omega) (by unfold yv_Q yv_P at hj; omega))
        unfold wY_outerA_69
        by_cases hb : ra_size x fx ≤ c ∧ ra_size y fy ≤ c
        · rw [if_pos hb] at ef
          subst ef
          refine br_f (by decide) ?_
          refine yb_0 (mon := mon) hv h8 hc (ra_fc_W wx hb.1) (ra_fc_W wy hb.2) hfit hm hmv (fun m => by show x.1 - fx = 0; rw [hm0 m]; omega) (hfc hb).1 (hfc hb).2 ?_
          intro z zs rk4 dm4 am4 lx4 ly4 lm4 lfx4 lfy4 lfr4 lp4 lk4 lc4 lf4 lM4 hE4 hS4 hbb
          have hI4 := yv_I_g fr3 hI3 hE4 (fun j hj => hS4 j hj.1)
          rcases hbb with ⟨he, hz11, hzo, hzR, rfl⟩ | ⟨he, ez⟩
          · have es : ra_S0 c fv (ra_BE c fv v) (ra_BA c fv v) x y fx fy = ra_BA c fv v (ra_fc fv x fx) (ra_fc fv y fy) := by
              unfold ra_S0; rw [if_neg (by omega), if_pos he]
            have wz := hokk _ _ (ra_fc_W wx hb.1) (ra_fc_W wy hb.2) he
            skip
            exact yj_0 (zs := zs) (G := (ra_BA c fv v (ra_fc fv x fx) (ra_fc fv y fy)).2.1) hv h8 hc wx wy hfx hfy hfit hm hmv hm0 hd hsx hsy qx qy hx0 hy0 hp p0 hI4 (K := (ra_BA c fv v (ra_fc fv x fx) (ra_fc fv y fy)).1) (by rw [es]) wz.1 (fun i hi => by rw [es]) (fun _ => ⟨rfl, hz11, hzo, hzR.2.1⟩) (.inr ⟨rfl, hz11, hzR.1⟩)
          · have es : ra_S0 c fv (ra_BE c fv v) (ra_BA c fv v) x y fx fy = ra_sc 0 := by
              unfold ra_S0; rw [if_neg (by omega), if_neg he]
            subst ez
            skip
            exact yj_0 (zs := 0) (G := fun _ => 0) hv h8 hc wx wy hfx hfy hfit hm hmv hm0 hd hsx hsy qx qy hx0 hy0 hp p0 hI4 (K := 0) (by rw [es]; rfl) (by decide) (fun i hi => absurd hi (Nat.not_lt_zero i)) (fun h => absurd h (Nat.lt_irrefl 0)) (.inl ⟨ra_BE_n he, rfl⟩)
        · rw [if_neg hb] at ef
          subst ef
          have es : ra_S0 c fv (ra_BE c fv v) (ra_BA c fv v) x y fx fy = ra_sc 0 := by
            unfold ra_S0; rw [if_pos (by omega)]
          refine br_t rfl ?_
          exact yj_0 (zs := 0) (G := fun _ => 0) hv h8 hc wx wy hfx hfy hfit hm hmv hm0 hd hsx hsy qx qy hx0 hy0 hp p0 hI3 (K := 0) (by rw [es]; rfl) (by decide) (fun i hi => absurd hi (Nat.not_lt_zero i)) (fun h => absurd h (Nat.lt_irrefl 0)) (.inl ⟨by decide, rfl⟩)
      by_cases m : mon = 0
      · refine br_t (by rw [m]; rfl) ?_
        dsimp only
        rw [show lfx' 0 = nI fx from hV.2.2.2.1]
        refine ym_fillCell (s := sx) (t := 4) hc wx (ra_H_S (hx0 m) wx hc (hS2 sx (by unfold yv_Q yv_P at qx; omega))) hsx (by decide) (by unfold yv_Q yv_P at qx; omega) hfx ?_
        intro rk3 dm3 am3 hf3 hS3
        have hS23 : ∀ j, j ≠ 4 → j ≠ 5 → ra_S rk dm am rk3 dm3 am3 j := fun j a b => ra_S_t (hS2 j b) (hS3 j a)
        by_cases sx9 : ra_size x fx ≤ c
        · rw [if_pos sx9]
          refine br_f (by decide) (core _ rk3 dm3 am3 ?_ (fun hb => ⟨fun _ => hf3 hb.1, ra_H_S (hf2 hb.2) (ra_fc_W wy hb.2) hc (hS3 _ (by decide))⟩) hS23)
          by_cases sy9 : ra_size y fy ≤ c
          · rw [if_pos sy9, if_pos ⟨sx9, sy9⟩]
          · rw [if_neg sy9, if_neg (fun z => sy9 z.2)]
        · rw [if_neg sx9]
          refine br_t rfl (core _ rk3 dm3 am3 ?_ (fun hb => absurd hb.1 sx9) hS23)
          rw [if_neg (fun z => sx9 z.1)]
      · refine br_f (nI_ne0 (by omega) (by omega)) (core _ rk2 dm2 am2 ?_ (fun hb => ⟨fun z => absurd z m, hf2 hb.2⟩) (fun j _ b => hS2 j b))
        have sx1 : ra_size x fx ≤ c := by
          have : ra_size x fx = 1 := by
            unfold ra_size
            rw [show x.1 - fx = 0 by rw [hm0 m]; omega]; rfl
          omega
        by_cases sy9 : ra_size y fy ≤ c
        · rw [if_pos sy9, if_pos ⟨sx1, sy9⟩]
        · rw [if_neg sy9, if_neg (fun z => sy9 z.2)]
    · have pp : 0 < ra_pos x y fx fy := Nat.pos_of_ne_zero p0
      exact br_f (nI_ne0 pp (by omega)) (yp_0 hv h8 hc wx wy hfx hfy hfit hm hmv hm0 hd hsx hsy qx qy hx0 hy0 hp pp hI)
end
section
/-! the calls that apply: each side against the picture -/
section
variable {c : Nat} {fv oa ol ov : Int32} {rk dm am xs ys xf yf fs fr wr wd : Nat → Int32}
theorem xm_reg1 {post : Int32 → Prop} {s : Nat} (hs : s < 4) (hp : post 1) : wpX_isRegister post (nI c, fv, oa, ol, ov, rk, dm, am, xs, ys, xf, yf, fs, fr, wr, wd) (nI s) :=
  xm_isRegister (fun z => by
    rcases z with z | z
    · exact absurd z (nI_pos (by omega))
    · exact absurd ((ra_le4 (by omega)).mp z) (by omega)) (fun _ _ _ => hp)
theorem xm_reg0 {post : Int32 → Prop} {p : Int32} (h : p < 0 ∨ 4 ≤ p) (hp : post 0) : wpX_isRegister post (nI c, fv, oa, ol, ov, rk, dm, am, xs, ys, xf, yf, fs, fr, wr, wd) p :=
  xm_isRegister (fun _ => hp) (fun s hs e => by
    subst e
    rcases h with z | z
    · exact absurd z (nI_pos (by omega))
    · exact absurd ((ra_le4 (by omega)).mp z) (by omega))
theorem xm_call {post : Int32 → SX → Prop} {v sx sy dst : Nat} {x y : ra_A} {l r : Int32} (hv : v ≤ 12) (h8 : 8 ≤ c) (hc : c ≤ 32) (wx : ra_W c x) (wy : ra_W c y)
    (hsx : sx < 4 ∨ sx = 11) (hsy : sy < 4) (hds : dst < 4) (hx0 : ra_H rk dm am sx x) (hy0 : ra_H rk dm am sy y)
    (hp0 : ra_OE c fv v x y l r ≠ 0 → ∀ rk' dm' am' xs' ys' xf' yf' fs' fr' wr' wd', (∀ j, j < 4 ∨ j = 11 → ra_S rk dm am rk' dm' am' j) → post (ra_OE c fv v x y l r) (nI c, fv, oa, ol, ov, rk', dm', am', xs', ys', xf', yf', fs', fr', wr', wd'))
    (hp1 : ra_OE c fv v x y l r = 0 → ∀ rk' dm' am' xs' ys' xf' yf' fs' fr' wr' wd', ra_H rk' dm' am' dst (ra_OA c fv v x y l r) → (∀ j, j < 4 ∨ j = 11 → j ≠ dst → ra_S rk dm am rk' dm' am' j) → post (nI (ra_cnt (ra_OA c fv v x y l r))) (nI c, fv, oa, ol, ov, rk', dm', am', xs', ys', xf', yf', fs', fr', wr', wd')) :
    wpX_applyOuter (fun r u => match u with | (cp9, fv9, oa9, ol9, ov9, rk9, dm9, am9, xs9, ys9, xf9, yf9, fs9, fr9, wr9, wd9) => wpX_keepResult post (cp9, fv9, oa9, ol9, ov9, rk9, dm9, am9, xs9, ys9, xf9, yf9, fs9, fr9, wr9, wd9) r (nI dst)) (nI c, fv, oa, ol, ov, rk, dm, am, xs, ys, xf, yf, fs, fr, wr, wd) (nI v) (nI sx) (nI sy) l r := by
  refine xm_applyOuter hv h8 hc wx wy (by omega) (by omega) (by unfold xv_Q xv_P; omega) (by unfold xv_Q xv_P; omega) hx0 hy0 ?_
  intro rk' dm' am' xs' ys' xf' yf' fs' fr' wr' wd' _ hS hR
  have hS' : ∀ j, j < 4 ∨ j = 11 → ra_S rk dm am rk' dm' am' j := fun j hj => hS j (by unfold xv_Q xv_P; omega)
  show wpX_keepResult post (nI c, fv, oa, ol, ov, rk', dm', am', xs', ys', xf', yf', fs', fr', wr', wd') _ (nI dst)
  unfold wpX_keepResult
  by_cases e : ra_OE c fv v x y l r = 0
  · refine br_t e ?_
    have wR : ra_W c (ra_OA c fv v x y l r) := ra_A_W (by omega) (ra_B_ok h8 hc hv) wx wy (Nat.sub_le _ _) (Nat.sub_le _ _) e
    refine xm_copyCell (s := 8) (f := 0) (p := 0) (t := dst) (a := ra_OA c fv v x y l r) hc wR (hR e) (by decide) (by omega) (by omega) (Nat.zero_le _) (by show 0 < 1; decide) ?_
    intro rk2 dm2 am2 h2 hS2
    rw [ra_cell_0] at h2
    dsimp only
    rw [nI_clamp (by omega), h2.1]
    refine ⟨vp_in_nI (by omega) (by decide), ?_⟩
    refine xm_product (f := 0) (d := (ra_OA c fv v x y l r).2.1) (by omega) (by decide) wR.1 (fun i _ hi => h2.2.1 i hi) ?_
    exact hp1 e _ _ _ _ _ _ _ _ _ _ _ h2 (fun j hj hd => ra_S_t (hS' j hj) (hS2 j hd))
  · exact br_f e (hp0 e _ _ _ _ _ _ _ _ _ _ _ hS')
end
section
variable {c : Nat} {fv oa ol ov : Int32} {rk dm am lx ly lm lfx lfy lfr lp lk lc lf lM : Nat → Int32}
theorem ym_ok1 {post : Int32 → Prop} {s : Nat} (hs : s < 4) (hp : post 1) : wpY_ok post (nI c, fv, oa, ol, ov, rk, dm, am, lx, ly, lm, lfx, lfy, lfr, lp, lk, lc, lf, lM) (nI s) :=
  ym_ok (fun z => by
    rcases z with z | z
    · exact absurd z (nI_pos (by omega))
    · exact absurd ((ra_le4 (by omega)).mp z) (by omega)) (fun _ _ _ => hp)
theorem ym_ok0 {post : Int32 → Prop} {p : Int32} (h : p < 0 ∨ 4 ≤ p) (hp : post 0) : wpY_ok post (nI c, fv, oa, ol, ov, rk, dm, am, lx, ly, lm, lfx, lfy, lfr, lp, lk, lc, lf, lM) p :=
  ym_ok (fun _ => hp) (fun s hs e => by
    subst e
    rcases h with z | z
    · exact absurd z (nI_pos (by omega))
    · exact absurd ((ra_le4 (by omega)).mp z) (by omega))
theorem ym_call {post : Int32 → SY → Prop} {v sx sy dst mon : Nat} {x y : ra_A} {l r : Int32} (hv : v ≤ 12) (h8 : 8 ≤ c) (hc : c ≤ 32) (wx : ra_W c x) (wy : ra_W c y)
    (hm : mon ≤ 1) (hmv : mon = 0 ↔ 6 ≤ v) (hm0 : mon ≠ 0 → x.1 = 0)
    (hsx : sx < 4) (hsy : sy < 4) (hds : dst < 4) (hx0 : mon = 0 → ra_H rk dm am sx x) (hy0 : ra_H rk dm am sy y)
    (hp0 : ra_OE c fv v x y l r ≠ 0 → ∀ rk' dm' am' lx' ly' lm' lfx' lfy' lfr' lp' lk' lc' lf' lM', (∀ j, j < 4 → ra_S rk dm am rk' dm' am' j) → post (ra_OE c fv v x y l r) (nI c, fv, oa, ol, ov, rk', dm', am', lx', ly', lm', lfx', lfy', lfr', lp', lk', lc', lf', lM'))
    (hp1 : ra_OE c fv v x y l r = 0 → ∀ rk' dm' am' lx' ly' lm' lfx' lfy' lfr' lp' lk' lc' lf' lM', ra_H rk' dm' am' dst (ra_OA c fv v x y l r) → (∀ j, j < 4 → j ≠ dst → ra_S rk dm am rk' dm' am' j) → post (nI (ra_cnt (ra_OA c fv v x y l r))) (nI c, fv, oa, ol, ov, rk', dm', am', lx', ly', lm', lfx', lfy', lfr', lp', lk', lc', lf', lM')) :
    wpY_outerA (fun r u => match u with | (cp9, fv9, oa9, ol9, ov9, rk9, dm9, am9, lx9, ly9, lm9, lfx9, lfy9, lfr9, lp9, lk9, lc9, lf9, lM9) => (0 ≤ r → wpY_copySlot (fun u => match u with | (cp8, fv8, oa8, ol8, ov8, rk8, dm8, am8, lx8, ly8, lm8, lfx8, lfy8, lfr8, lp8, lk8, lc8, lf8, lM8) => wpY_cnt (fun r8 => post r8 (cp8, fv8, oa8, ol8, ov8, rk8, dm8, am8, lx8, ly8, lm8, lfx8, lfy8, lfr8, lp8, lk8, lc8, lf8, lM8)) (cp8, fv8, oa8, ol8, ov8, rk8, dm8, am8, lx8, ly8, lm8, lfx8, lfy8, lfr8, lp8, lk8, lc8, lf8, lM8) (nI dst)) (cp9, fv9, oa9, ol9, ov9, rk9, dm9, am9, lx9, ly9, lm9, lfx9, lfy9, lfr9, lp9, lk9, lc9, lf9, lM9) 10 (nI dst)) ∧ (¬ 0 ≤ r → post r (cp9, fv9, oa9, ol9, ov9, rk9, dm9, am9, lx9, ly9, lm9, lfx9, lfy9, lfr9, lp9, lk9, lc9, lf9, lM9))) (nI c, fv, oa, ol, ov, rk, dm, am, lx, ly, lm, lfx, lfy, lfr, lp, lk, lc, lf, lM) (nI v) (nI sx) (nI sy) l r (nI mon) := by
  refine ym_outerA hv h8 hc wx wy hm hmv hm0 (by omega) (by omega) (by unfold yv_Q yv_P; omega) (by unfold yv_Q yv_P; omega) hx0 hy0 ?_
  intro rk' dm' am' lx' ly' lm' lfx' lfy' lfr' lp' lk' lc' lf' lM' _ hS hR
  have hS' : ∀ j, j < 4 → ra_S rk dm am rk' dm' am' j := fun j hj => hS j (by unfold yv_Q yv_P; omega)
  by_cases e : ra_OE c fv v x y l r = 0
  · refine br_t (by rw [e]; decide) ?_
    have wR : ra_W c (ra_OA c fv v x y l r) := ra_A_W (by omega) (ra_B_ok h8 hc hv) wx wy (Nat.sub_le _ _) (Nat.sub_le _ _) e
    have h10 := hR e
    have r3 := wR.1
    have rc := wR.2.2
    refine ym_copySlot (s := 10) (t := dst) (by decide) (by omega) (by omega) ?_
    have hN : ra_H (upd rk' dst (rk' 10)) (ra_blk dm' (dst * 3) 3 (fun i => dm' (10 * 3 + i))) (ra_blk am' (dst * 32) 32 (fun i => am' (10 * 32 + i))) dst (ra_OA c fv v x y l r) :=
      ⟨pk_us.trans h10.1, fun i hi => (ra_blk_in (by omega)).trans (h10.2.1 i hi), fun i hi => (ra_blk_in (by omega)).trans (h10.2.2 i hi)⟩
    refine ym_cnt (d := (ra_OA c fv v x y l r).2.1) (by omega) r3 hN.1 hN.2.1 ?_
    exact hp1 e _ _ _ _ _ _ _ _ _ _ _ _ _ _ hN (fun j hj hd => ra_S_t (hS' j hj) (ra_S_blk (Nat.le_refl _) (Nat.le_refl _) hd))
  · exact br_f (Int32.not_le.mpr (ra_OE_n e)) (hp0 e _ _ _ _ _ _ _ _ _ _ _ _ _ _ hS')
end
end
section
/-! the relation -/
def iv_R (c : Nat) (rk dm am rk' dm' am' : Nat → Int32) : Prop :=
  (∀ s, s < 4 → ∃ a, ra_W c a ∧ ra_H rk dm am s a ∧ ra_H rk' dm' am' s a) ∧ ra_H rk dm am 11 (ra_sc 0)
/-- both sides' registers hold the same arrays within the limits; cap, fill and the rank setting are the same -/
def i_Rel (k : Nat) (u : SX) (v : SY) : Prop :=
  ∃ (c : Nat) (fv oa ol ov : Int32) (rk dm am xs ys xf yf fs fr wr wd rk' dm' am' lx' ly' lm' lfx' lfy' lfr' lp' lk' lc' lf' lM' : Nat → Int32), k = k ∧ 8 ≤ c ∧ c ≤ 32 ∧ u = (nI c, fv, oa, ol, ov, rk, dm, am, xs, ys, xf, yf, fs, fr, wr, wd) ∧ v = (nI c, fv, oa, ol, ov, rk', dm', am', lx', ly', lm', lfx', lfy', lfr', lp', lk', lc', lf', lM') ∧ iv_R c rk dm am rk' dm' am'
theorem iv_mk {k c : Nat} {fv oa ol ov : Int32} {rk dm am xs ys xf yf fs fr wr wd rk' dm' am' lx' ly' lm' lfx' lfy' lfr' lp' lk' lc' lf' lM' : Nat → Int32} (h8 : 8 ≤ c) (hc : c ≤ 32) (h : iv_R c rk dm am rk' dm' am') : i_Rel k (nI c, fv, oa, ol, ov, rk, dm, am, xs, ys, xf, yf, fs, fr, wr, wd) (nI c, fv, oa, ol, ov, rk', dm', am', lx', ly', lm', lfx', lfy', lfr', lp', lk', lc', lf', lM') :=
  ⟨c, fv, oa, ol, ov, rk, dm, am, xs, ys, xf, yf, fs, fr, wr, wd, rk', dm', am', lx', ly', lm', lfx', lfy', lfr', lp', lk', lc', lf', lM', rfl, h8, hc, rfl, rfl, h⟩
/-- one register written anew, on both sides -/
theorem iv_put {c d : Nat} {rk dm am rk' dm' am' rk2 dm2 am2 rk3 dm3 am3 : Nat → Int32} {a : ra_A} (hc : c ≤ 32) (h1 : 1 ≤ c) (h : iv_R c rk dm am rk' dm' am') (hd : d < 4) (w : ra_W c a) (hx : ra_H rk2 dm2 am2 d a) (hy : ra_H rk3 dm3 am3 d a)
    (sx : ∀ j, j < 4 ∨ j = 11 → j ≠ d → ra_S rk dm am rk2 dm2 am2 j) (sy : ∀ j, j < 4 → j ≠ d → ra_S rk' dm' am' rk3 dm3 am3 j) : iv_R c rk2 dm2 am2 rk3 dm3 am3 := by
  refine ⟨fun s hs => ?_, ra_H_S h.2 (ra_sc_W h1 0) hc (sx 11 (.inr rfl) (by omega))⟩
  by_cases e : s = d
  · subst e; exact ⟨a, w, hx, hy⟩
  · obtain ⟨b, wb, bx, bY⟩ := h.1 s hs
    exact ⟨b, wb, ra_H_S bx wb hc (sx s (.inl hs) e), ra_H_S bY wb hc (sy s hs e)⟩
theorem iv_keep {c : Nat} {rk dm am rk' dm' am' rk2 dm2 am2 rk3 dm3 am3 : Nat → Int32} (hc : c ≤ 32) (h1 : 1 ≤ c) (h : iv_R c rk dm am rk' dm' am')
    (sx : ∀ j, j < 4 ∨ j = 11 → ra_S rk dm am rk2 dm2 am2 j) (sy : ∀ j, j < 4 → ra_S rk' dm' am' rk3 dm3 am3 j) : iv_R c rk2 dm2 am2 rk3 dm3 am3 := by
  refine ⟨fun s hs => ?_, ra_H_S h.2 (ra_sc_W h1 0) hc (sx 11 (.inr rfl))⟩
  obtain ⟨b, wb, bx, bY⟩ := h.1 s hs
  exact ⟨b, wb, ra_H_S bx wb hc (sx s (.inl hs)), ra_H_S bY wb hc (sy s hs)⟩
theorem iv_reg (p : Int32) : (p < 0 ∨ 4 ≤ p) ∨ ∃ s : Nat, s < 4 ∧ p = nI s := by
  by_cases a : p < 0
  · exact .inl (.inl a)
  · obtain ⟨s, hs, rfl⟩ := nI_of a
    by_cases b : (4 : Int32) ≤ nI s
    · exact .inl (.inr b)
    · exact .inr ⟨s, by rw [ra_le4 hs] at b; omega, rfl⟩
theorem i_up {k : Nat} {u : SX} {v : SY} (h : i_Rel k u v) : i_Rel (k + 5) u v := by
  obtain ⟨c, fv, oa, ol, ov, rk, dm, am, xs, ys, xf, yf, fs, fr, wr, wd, rk', dm', am', lx', ly', lm', lfx', lfy', lfr', lp', lk', lc', lf', lM', -, h8, hc, rfl, rfl, hR⟩ := h
  exact iv_mk h8 hc hR
theorem iv_R0 {c : Nat} (h1 : 1 ≤ c) : iv_R c (fun _ => 0) (fun _ => 0) (fun _ => 0) (fun _ => 0) (fun _ => 0) (fun _ => 0) :=
  ⟨fun s _ => ⟨ra_sc 0, ra_sc_W h1 0, ⟨rfl, fun i hi => absurd hi (Nat.not_lt_zero i), fun _ _ => rfl⟩, ⟨rfl, fun i hi => absurd hi (Nat.not_lt_zero i), fun _ _ => rfl⟩⟩,
    ⟨rfl, fun i hi => absurd hi (Nat.not_lt_zero i), fun _ _ => rfl⟩⟩
theorem i_vc0 (k0 : Int32) : wpX_init (fun u => wpY_init (fun v => i_Rel 1 u v) k0) k0 := by
  unfold wpX_init wpY_init
  by_cases a : 8 ≤ k0
  · refine br_t a ?_
    by_cases b : k0 ≤ 32
    · obtain ⟨n, hn, rfl⟩ := nI_of (x := k0) (Int32.not_lt.mpr (Int32.le_trans (by decide) a))
      have a' : 8 ≤ n := (nI_leI (a := 8) (by decide) hn).mp a
      have b' : n ≤ 32 := (nI_leI (b := 32) hn (by decide)).mp b
      exact br_t b (br_t a (br_t b (iv_mk a' b' (iv_R0 (by omega)))))
    · exact br_f b (br_t a (br_f b (iv_mk (c := 32) (by decide) (by decide) (iv_R0 (by decide)))))
  · exact br_f a (br_f a (iv_mk (c := 8) (by decide) (by decide) (iv_R0 (by decide))))
end
section
/-! the owed statements: the calls that read and write one register -/
section
variable {c : Nat} {fv oa ol ov : Int32} {rk dm am xs ys xf yf fs fr wr wd : Nat → Int32}
theorem xm_has0 {post : Int32 → Prop} {p q : Int32} (h : p < 0 ∨ 4 ≤ p) (hp : post 0) : wpX_hasAtom post (nI c, fv, oa, ol, ov, rk, dm, am, xs, ys, xf, yf, fs, fr, wr, wd) p q := by
  unfold wpX_hasAtom
  exact xm_reg0 h (br_t rfl hp)
theorem xm_hasn {post : Int32 → Prop} {s : Nat} {q : Int32} (hs : s < 4) (h : q < 0) (hp : post 0) : wpX_hasAtom post (nI c, fv, oa, ol, ov, rk, dm, am, xs, ys, xf, yf, fs, fr, wr, wd) (nI s) q := by
  unfold wpX_hasAtom
  exact xm_reg1 hs (br_f (by decide) (br_t h hp))
theorem xm_has {post : Int32 → Prop} {s j : Nat} {a : ra_A} (hc : c ≤ 32) (hs : s < 4) (wa : ra_W c a) (ha : ra_H rk dm am s a) (hj : j < 2 ^ 31) (h0 : ra_cnt a ≤ j → post 0) (h1 : j < ra_cnt a → post 1) : wpX_hasAtom post (nI c, fv, oa, ol, ov, rk, dm, am, xs, ys, xf, yf, fs, fr, wr, wd) (nI s) (nI j) := by
  have cc := wa.2.2
  unfold wpX_hasAtom
  refine xm_reg1 hs (br_f (by decide) (br_f (nI_pos hj) ?_))
  rw [nI_clamp (by omega), ha.1]
  refine ⟨vp_in_nI (by omega) (by decide), ?_⟩
  refine xm_product (f := 0) (d := a.2.1) (by omega) (by decide) wa.1 (fun i _ hi => ha.2.1 i hi) ?_
  show (nI (ra_cnt a) ≤ nI j → _) ∧ _
  by_cases g : ra_cnt a ≤ j
  · exact br_t (nI_le g hj) (h0 g)
  · exact br_f (nI_ge (by omega) (by omega)) (h1 (by omega))
end
theorem i_vc_scalar {k : Nat} {u : SX} {v : SY} (I : i_Rel k u v) (hk : k + 5 ≤ 2561) (v1 : Int32) (v2 : Int32) : wpX_scalar (fun r u' => wpY_scalar (fun r' v' => r' = r ∧ i_Rel (k + 5) u' v') v v1 v2) u v1 v2 := by
  obtain ⟨c, fv, oa, ol, ov, rk, dm, am, xs, ys, xf, yf, fs, fr, wr, wd, rk', dm', am', lx', ly', lm', lfx', lfy', lfr', lp', lk', lc', lf', lM', -, h8, hc, rfl, rfl, hR⟩ := I

  unfold wpX_scalar wpY_scalar
  rcases iv_reg v1 with h | ⟨s, hs, rfl⟩
  · exact xm_reg0 h (br_t rfl (ym_ok0 h (br_t rfl ⟨rfl, iv_mk h8 hc hR⟩)))
  · refine xm_reg1 hs (br_f (by decide) ?_)
    simp (disch := omega) only [ra_m32, nI_clamp, ra_inI, true_and, forall_eq]
    refine ym_ok1 hs (br_f (by decide) ?_)
    exact iv_mk h8 hc (iv_put hc (by omega) hR hs (ra_sc_W (by omega) v2) ra_H_sc ra_H_sc (fun j _ hj => ra_S_sc hj) (fun j _ hj => ra_S_sc hj))
theorem i_vc_set {k : Nat} {u : SX} {v : SY} (I : i_Rel k u v) (hk : k + 5 ≤ 2561) (v1 : Int32) (v2 : Int32) (v3 : Int32) : wpX_set (fun r u' => wpY_set (fun r' v' => r' = r ∧ i_Rel (k + 5) u' v') v v1 v2 v3) u v1 v2 v3 := by
  obtain ⟨c, fv, oa, ol, ov, rk, dm, am, xs, ys, xf, yf, fs, fr, wr, wd, rk', dm', am', lx', ly', lm', lfx', lfy', lfr', lp', lk', lc', lf', lM', -, h8, hc, rfl, rfl, hR⟩ := I

  unfold wpX_set wpY_set
  rcases iv_reg v1 with h | ⟨s, hs, rfl⟩
  · exact xm_has0 h (br_t rfl (ym_ok0 h (br_t rfl ⟨rfl, iv_mk h8 hc hR⟩)))
  · by_cases n : v2 < 0
    · exact xm_hasn hs n (br_t rfl (ym_ok1 hs (br_f (by decide) (br_t n ⟨rfl, iv_mk h8 hc hR⟩))))
    · obtain ⟨j, hj, rfl⟩ := nI_of n
      obtain ⟨a, wa, hx, hy⟩ := hR.1 s hs
      have cc := wa.2.2
      refine xm_has hc hs wa hx hj (fun g => br_t rfl ?_) (fun g => br_f (by decide) ?_)
      · refine ym_ok1 hs (br_f (by decide) (br_f n ?_))
        refine ym_cnt (by omega) wa.1 hy.1 hy.2.1 ?_
        exact br_t (show nI (ra_cnt a) ≤ nI j from nI_le g hj) ⟨rfl, iv_mk h8 hc hR⟩
      · simp (disch := omega) only [ra_m32, nI_add, nI_clamp, ra_inI, true_and, forall_eq]
        refine ym_ok1 hs (br_f (by decide) (br_f n ?_))
        refine ym_cnt (by omega) wa.1 hy.1 hy.2.1 ?_
        refine br_f (show ¬ nI (ra_cnt a) ≤ nI j from nI_ge g (by omega)) (br_t (by rw [ra_lt32 (by omega)]; omega) (iv_mk h8 hc ?_))
        refine iv_put (a := (a.1, a.2.1, fun i => if i = j then v3 else a.2.2 i)) hc (by omega) hR hs wa ⟨hx.1, hx.2.1, fun i hi => ?_⟩ ⟨hy.1, hy.2.1, fun i hi => ?_⟩ (fun q _ hq => ⟨rfl, fun _ _ => rfl, fun i hi => pk_un (by omega)⟩) (fun q _ hq => ⟨rfl, fun _ _ => rfl, fun i hi => pk_un (by omega)⟩)
        · show upd am (s * 32 + j) v3 (s * 32 + i) = if i = j then v3 else a.2.2 i
          by_cases e : i = j
          · subst e; rw [pk_us, if_pos rfl]
          · rw [pk_un (by omega), if_neg e]; exact hx.2.2 i hi
        · show upd am' (s * 32 + j) v3 (s * 32 + i) = if i = j then v3 else a.2.2 i
          by_cases e : i = j
          · subst e; rw [pk_us, if_pos rfl]
          · rw [pk_un (by omega), if_neg e]; exact hy.2.2 i hi
theorem i_vc_setFill {k : Nat} {u : SX} {v : SY} (I : i_Rel k u v) (hk : k + 5 ≤ 2561) (v1 : Int32) : wpX_setFill (fun u' => wpY_setFill (fun v' => i_Rel (k + 5) u' v') v v1) u v1 := by
  obtain ⟨c, fv, oa, ol, ov, rk, dm, am, xs, ys, xf, yf, fs, fr, wr, wd, rk', dm', am', lx', ly', lm', lfx', lfy', lfr', lp', lk', lc', lf', lM', -, h8, hc, rfl, rfl, hR⟩ := I

  exact iv_mk h8 hc hR
theorem i_vc_setRank {k : Nat} {u : SX} {v : SY} (I : i_Rel k u v) (hk : k + 5 ≤ 2561) (v1 : Int32) (v2 : Int32) : wpX_setRank (fun u' => wpY_setRank (fun v' => i_Rel (k + 5) u' v') v v1 v2) u v1 v2 := by
  obtain ⟨c, fv, oa, ol, ov, rk, dm, am, xs, ys, xf, yf, fs, fr, wr, wd, rk', dm', am', lx', ly', lm', lfx', lfy', lfr', lp', lk', lc', lf', lM', -, h8, hc, rfl, rfl, hR⟩ := I

  exact iv_mk h8 hc hR
theorem i_vc_clearRank {k : Nat} {u : SX} {v : SY} (I : i_Rel k u v) (hk : k + 5 ≤ 2561) : wpX_clearRank (fun u' => wpY_clearRank (fun v' => i_Rel (k + 5) u' v') v) u := by
  obtain ⟨c, fv, oa, ol, ov, rk, dm, am, xs, ys, xf, yf, fs, fr, wr, wd, rk', dm', am', lx', ly', lm', lfx', lfy', lfr', lp', lk', lc', lf', lM', -, h8, hc, rfl, rfl, hR⟩ := I

  exact iv_mk h8 hc hR
theorem i_vc_rank {k : Nat} {u : SX} {v : SY} (I : i_Rel k u v) (hk : k + 5 ≤ 2561) (v1 : Int32) : wpX_rank (fun r => wpY_rank (fun r' => r' = r ∧ i_Rel (k + 5) u v) v v1) u v1 := by
  obtain ⟨c, fv, oa, ol, ov, rk, dm, am, xs, ys, xf, yf, fs, fr, wr, wd, rk', dm', am', lx', ly', lm', lfx', lfy', lfr', lp', lk', lc', lf', lM', -, h8, hc, rfl, rfl, hR⟩ := I

  unfold wpX_rank wpY_rank
  rcases iv_reg v1 with h | ⟨s, hs, rfl⟩
  · exact xm_reg0 h (br_t rfl (ym_ok0 h (br_t rfl ⟨rfl, iv_mk h8 hc hR⟩)))
  · obtain ⟨a, wa, hx, hy⟩ := hR.1 s hs
    refine xm_reg1 hs (br_f (by decide) ⟨vp_in_nI (by omega) (by decide), ?_⟩)
    refine ym_ok1 hs (br_f (by decide) ⟨vp_in_nI (by omega) (by decide), ?_, iv_mk h8 hc hR⟩)
    rw [nI_clamp (by omega), hx.1, hy.1]
theorem i_vc_dim {k : Nat} {u : SX} {v : SY} (I : i_Rel k u v) (hk : k + 5 ≤ 2561) (v1 : Int32) (v2 : Int32) : wpX_dim (fun r => wpY_dim (fun r' => r' = r ∧ i_Rel (k + 5) u v) v v1 v2) u v1 v2 := by
  obtain ⟨c, fv, oa, ol, ov, rk, dm, am, xs, ys, xf, yf, fs, fr, wr, wd, rk', dm', am', lx', ly', lm', lfx', lfy', lfr', lp', lk', lc', lf', lM', -, h8, hc, rfl, rfl, hR⟩ := I

  unfold wpX_dim wpY_dim
  rcases iv_reg v1 with h | ⟨s, hs, rfl⟩
  · exact xm_reg0 h (br_t rfl (ym_ok0 h (br_t rfl ⟨rfl, iv_mk h8 hc hR⟩)))
  · by_cases n : v2 < 0
    · exact xm_reg1 hs (br_f (by decide) (br_t n (ym_ok1 hs (br_f (by decide) (br_t n ⟨rfl, iv_mk h8 hc hR⟩)))))
    · obtain ⟨j, hj, rfl⟩ := nI_of n
      obtain ⟨a, wa, hx, hy⟩ := hR.1 s hs
      have a3 := wa.1
      refine xm_reg1 hs (br_f (by decide) (br_f n ⟨vp_in_nI (by omega) (by decide), ?_⟩))
      rw [nI_clamp (by omega), hx.1]
      by_cases g : j < a.1
      · refine br_t (nI_lt g (by omega)) ?_
        rw [ra_m3, nI_add, nI_clamp (by omega), hx.2.1 j g]
        refine ⟨vp_in_nI (by omega) (by decide), ?_⟩
        refine ym_ok1 hs (br_f (by decide) (br_f n ⟨vp_in_nI (by omega) (by decide), ?_⟩))
        rw [hy.1]
        refine br_f (nI_ge g (by omega)) (br_t (by rw [ra_lt3 (by omega)]; omega) ?_)
        rw [hy.2.1 j g]
        exact ⟨vp_in_nI (by omega) (by decide), rfl, iv_mk h8 hc hR⟩
      · refine br_f (nI_nlt (by omega) hj) ?_
        refine ym_ok1 hs (br_f (by decide) (br_f n ⟨vp_in_nI (by omega) (by decide), ?_⟩))
        rw [hy.1]
        exact br_t (nI_le (by omega) hj) ⟨rfl, iv_mk h8 hc hR⟩
theorem i_vc_count {k : Nat} {u : SX} {v : SY} (I : i_Rel k u v) (hk : k + 5 ≤ 2561) (v1 : Int32) : wpX_count (fun r => wpY_count (fun r' => r' = r ∧ i_Rel (k + 5) u v) v v1) u v1 := by
  obtain ⟨c, fv, oa, ol, ov, rk, dm, am, xs, ys, xf, yf, fs, fr, wr, wd, rk', dm', am', lx', ly', lm', lfx', lfy', lfr', lp', lk', lc', lf', lM', -, h8, hc, rfl, rfl, hR⟩ := I

  unfold wpX_count wpY_count
  rcases iv_reg v1 with h | ⟨s, hs, rfl⟩
  · exact xm_reg0 h (br_t rfl (ym_ok0 h (br_t rfl ⟨rfl, iv_mk h8 hc hR⟩)))
  · obtain ⟨a, wa, hx, hy⟩ := hR.1 s hs
    refine xm_reg1 hs (br_f (by decide) ⟨vp_in_nI (by omega) (by decide), ?_⟩)
    rw [nI_clamp (by omega), hx.1]
    refine xm_product (f := 0) (d := a.2.1) (by omega) (by decide) wa.1 (fun i _ hi => hx.2.1 i hi) ?_
    refine ym_ok1 hs (br_f (by decide) ?_)
    refine ym_cnt (by omega) wa.1 hy.1 hy.2.1 ?_
    exact ⟨rfl, iv_mk h8 hc hR⟩
theorem i_vc_atom {k : Nat} {u : SX} {v : SY} (I : i_Rel k u v) (hk : k + 5 ≤ 2561) (v1 : Int32) (v2 : Int32) : wpX_atom (fun r => wpY_atom (fun r' => r' = r ∧ i_Rel (k + 5) u v) v v1 v2) u v1 v2 := by
  obtain ⟨c, fv, oa, ol, ov, rk, dm, am, xs, ys, xf, yf, fs, fr, wr, wd, rk', dm', am', lx', ly', lm', lfx', lfy', lfr', lp', lk', lc', lf', lM', -, h8, hc, rfl, rfl, hR⟩ := I

  unfold wpX_atom wpY_atom
  rcases iv_reg v1 with h | ⟨s, hs, rfl⟩
  · exact xm_has0 h (br_t rfl (ym_ok0 h (br_t rfl ⟨rfl, iv_mk h8 hc hR⟩)))
  · by_cases n : v2 < 0
    · exact xm_hasn hs n (br_t rfl (ym_ok1 hs (br_f (by decide) (br_t n ⟨rfl, iv_mk h8 hc hR⟩))))
    · obtain ⟨j, hj, rfl⟩ := nI_of n
      obtain ⟨a, wa, hx, hy⟩ := hR.1 s hs
      have cc := wa.2.2
      refine xm_has hc hs wa hx hj (fun g => br_t rfl ?_) (fun g => br_f (by decide) ?_)
      · refine ym_ok1 hs (br_f (by decide) (br_f n ?_))
        refine ym_cnt (by omega) wa.1 hy.1 hy.2.1 ?_
        exact br_t (show nI (ra_cnt a) ≤ nI j from nI_le g hj) ⟨rfl, iv_mk h8 hc hR⟩
      · simp (disch := omega) only [ra_m32, nI_add, nI_clamp, ra_inI, true_and]
        refine ym_ok1 hs (br_f (by decide) (br_f n ?_))
        refine ym_cnt (by omega) wa.1 hy.1 hy.2.1 ?_
        refine br_f (show ¬ nI (ra_cnt a) ≤ nI j from nI_ge g (by omega)) (br_t (by rw [ra_lt32 (by omega)]; omega) ⟨?_, iv_mk h8 hc hR⟩)
        rw [hx.2.2 j g, hy.2.2 j g]
theorem i_vc_fill {k : Nat} {u : SX} {v : SY} (I : i_Rel k u v) (hk : k + 5 ≤ 2561) : wpX_fill (fun r => wpY_fill (fun r' => r' = r ∧ i_Rel (k + 5) u v) v) u := by
  obtain ⟨c, fv, oa, ol, ov, rk, dm, am, xs, ys, xf, yf, fs, fr, wr, wd, rk', dm', am', lx', ly', lm', lfx', lfy', lfr', lp', lk', lc', lf', lM', -, h8, hc, rfl, rfl, hR⟩ := I

  exact ⟨rfl, iv_mk h8 hc hR⟩
theorem i_vc_rankSetting {k : Nat} {u : SX} {v : SY} (I : i_Rel k u v) (hk : k + 5 ≤ 2561) (v1 : Int32) : wpX_rankSetting (fun r => wpY_rankSetting (fun r' => r' = r ∧ i_Rel (k + 5) u v) v v1) u v1 := by
  obtain ⟨c, fv, oa, ol, ov, rk, dm, am, xs, ys, xf, yf, fs, fr, wr, wd, rk', dm', am', lx', ly', lm', lfx', lfy', lfr', lp', lk', lc', lf', lM', -, h8, hc, rfl, rfl, hR⟩ := I

  unfold wpX_rankSetting wpY_rankSetting
  by_cases e0 : v1 = 0
  · subst e0
    refine br_f (by decide) (br_f (by decide) (br_t rfl ?_))
    by_cases o : oa = 0
    · exact br_t o (br_t rfl (br_t o ⟨rfl, iv_mk h8 hc hR⟩))
    · exact br_f o (br_t rfl (br_f o ⟨rfl, iv_mk h8 hc hR⟩))
  by_cases e1 : v1 = 1
  · subst e1
    exact br_f (by decide) (br_f (by decide) (br_f (by decide) (br_t rfl (br_f (by decide) (br_t rfl ⟨rfl, iv_mk h8 hc hR⟩)))))
  by_cases e2 : v1 = 2
  · subst e2
    exact br_f (by decide) (br_f (by decide) (br_f (by decide) (br_f (by decide) (br_t rfl (br_f (by decide) (br_f (by decide) (br_t rfl ⟨rfl, iv_mk h8 hc hR⟩)))))))
  by_cases n : v1 < 0
  · exact br_t n (br_f e0 (br_f e1 (br_f e2 ⟨rfl, iv_mk h8 hc hR⟩)))
  · refine br_f n (br_t ?_ (br_f e0 (br_f e1 (br_f e2 ⟨rfl, iv_mk h8 hc hR⟩))))
    obtain ⟨j, hj, rfl⟩ := nI_of n
    refine (nI_ltI (a := 2) (by decide) hj).mpr ?_
    have f0 : j ≠ 0 := fun z => e0 (by rw [z]; rfl)
    have f1 : j ≠ 1 := fun z => e1 (by rw [z]; rfl)
    have f2 : j ≠ 2 := fun z => e2 (by rw [z]; rfl)
    omega
end
section
/-! the owed statements: declaredRank, monad, dyad -/
theorem iv_verb (p : Int32) : (∃ v : Nat, v ≤ 5 ∧ p = nI v) ∨ (∃ v : Nat, 6 ≤ v ∧ v ≤ 12 ∧ p = nI v) ∨ (p < 0 ∨ 12 < p) := by
  by_cases n : p < 0
  · exact .inr (.inr (.inl n))
  · obtain ⟨v, hv, rfl⟩ := nI_of n
    by_cases a : v ≤ 5
    · exact .inl ⟨v, a, rfl⟩
    · by_cases b : v ≤ 12
      · exact .inr (.inl ⟨v, by omega, b, rfl⟩)
      · exact .inr (.inr (.inr (nI_lt (a := 12) (by omega) hv)))
section
variable {c : Nat} {fv oa ol ov : Int32} {rk dm am xs ys xf yf fs fr wr wd : Nat → Int32}
theorem xm_mon1 {post : Int32 → Prop} {v : Nat} (h : v ≤ 5) (hp : post 1) : wpX_isMonad post (nI c, fv, oa, ol, ov, rk, dm, am, xs, ys, xf, yf, fs, fr, wr, wd) (nI v) := by
  unfold wpX_isMonad
  exact br_f (nI_pos (by omega)) (br_f (nI_nlt (a := 5) h (by decide)) hp)
theorem xm_mon0 {post : Int32 → Prop} {p : Int32} (h : p < 0 ∨ 5 < p) (hp : post 0) : wpX_isMonad post (nI c, fv, oa, ol, ov, rk, dm, am, xs, ys, xf, yf, fs, fr, wr, wd) p := by
  unfold wpX_isMonad
  by_cases n : p < 0
  · exact br_t n hp
  · exact br_f n (br_t (h.resolve_left n) hp)
theorem xm_dy1 {post : Int32 → Prop} {v : Nat} (h : 6 ≤ v) (h2 : v ≤ 12) (hp : post 1) : wpX_isDyad post (nI c, fv, oa, ol, ov, rk, dm, am, xs, ys, xf, yf, fs, fr, wr, wd) (nI v) := by
  unfold wpX_isDyad
  exact br_f (nI_nlt (b := 6) h (by omega)) (br_f (nI_nlt (a := 12) h2 (by decide)) hp)
theorem xm_dy0 {post : Int32 → Prop} {p : Int32} (h : p < 6 ∨ 12 < p) (hp : post 0) : wpX_isDyad post (nI c, fv, oa, ol, ov, rk, dm, am, xs, ys, xf, yf, fs, fr, wr, wd) p := by
  unfold wpX_isDyad
  by_cases n : p < 6
  · exact br_t n hp
  · exact br_f n (br_t (h.resolve_left n) hp)
end
theorem i_vc_declaredRank {k : Nat} {u : SX} {v : SY} (I : i_Rel k u v) (hk : k + 5 ≤ 2561) (v1 : Int32) (v2 : Int32) : wpX_declaredRank (fun r => wpY_declaredRank (fun r' => r' = r ∧ i_Rel (k + 5) u v) v v1 v2) u v1 v2 := by
  obtain ⟨c, fv, oa, ol, ov, rk, dm, am, xs, ys, xf, yf, fs, fr, wr, wd, rk', dm', am', lx', ly', lm', lfx', lfy', lfr', lp', lk', lc', lf', lM', -, h8, hc, rfl, rfl, hR⟩ := I

  unfold wpX_declaredRank wpY_declaredRank wX_declaredRank_18 wX_declaredRank_37 wY_declaredRank_20 wY_declaredRank_42 wY_declaredRank_54
  rcases iv_verb v1 with ⟨v, hv, rfl⟩ | ⟨v, h6, hv, rfl⟩ | h
  · have l6 : nI v < 6 := nI_lt (b := 6) (by omega) (by decide)
    by_cases e : v2 = 0
    · refine xm_mon1 hv (br_f (by decide) (br_t e ?_))
      refine xm_rightRank (by omega) ?_
      refine br_f (nI_pos (by omega)) (br_f (nI_nlt (a := 5) hv (by decide)) (br_t e ?_))
      exact ym_drR (by omega) ⟨rfl, iv_mk h8 hc hR⟩
    · refine xm_mon1 hv (br_f (by decide) (br_f e ?_))
      refine xm_dy0 (.inl l6) (br_t rfl (xm_dy0 (.inl l6) (br_t rfl ?_)))
      exact br_f (nI_pos (by omega)) (br_f (nI_nlt (a := 5) hv (by decide)) (br_f e (br_t l6 ⟨rfl, iv_mk h8 hc hR⟩)))
  · have g5 : 5 < nI v := nI_lt (a := 5) (by omega) (by omega)
    have n6 : ¬ nI v < 6 := nI_nlt (b := 6) h6 (by omega)
    have n12 : ¬ 12 < nI v := nI_nlt (a := 12) hv (by decide)
    refine xm_mon0 (.inr g5) (br_t rfl (xm_dy1 h6 hv (br_f (by decide) ?_)))
    by_cases e1 : v2 = 1
    · refine br_t e1 (xm_leftRank hv ?_)
      refine br_f (nI_pos (by omega)) (br_t g5 (br_f n6 (br_f n12 (br_t e1 (br_f (by rw [e1]; decide) ?_)))))
      refine ym_drL hv ?_
      intro z ez
      exact ⟨ez h6, iv_mk h8 hc hR⟩
    · refine br_f e1 (xm_dy1 h6 hv (br_f (by decide) ?_))
      by_cases e2 : v2 = 2
      · refine br_t e2 (xm_rightRank hv ?_)
        refine br_f (nI_pos (by omega)) (br_t g5 (br_f n6 (br_f n12 (br_f e1 (br_t e2 (br_t e2 ?_))))))
        exact ym_drR hv ⟨rfl, iv_mk h8 hc hR⟩
      · refine br_f e2 ?_
        exact br_f (nI_pos (by omega)) (br_t g5 (br_f n6 (br_f n12 (br_f e1 (br_f e2 ⟨rfl, iv_mk h8 hc hR⟩)))))
  · have a5 : v1 < 0 ∨ 5 < v1 := h.imp id (fun z => Int32.lt_trans (by decide) z)
    have a6 : v1 < 6 ∨ 12 < v1 := h.imp (fun z => Int32.lt_trans z (by decide)) id
    refine xm_mon0 a5 (br_t rfl (xm_dy0 a6 (br_t rfl (xm_dy0 a6 (br_t rfl ?_)))))
    rcases h with n | n
    · exact br_t n (br_t (Int32.lt_trans n (by decide)) ⟨rfl, iv_mk h8 hc hR⟩)
    · have n0 : ¬ v1 < 0 := fun z => absurd (Int32.lt_trans n z) (by decide)
      have n5 : 5 < v1 := Int32.lt_trans (by decide) n
      have n6 : ¬ v1 < 6 := fun z => absurd (Int32.lt_trans n z) (by decide)
      exact br_f n0 (br_t n5 (br_f n6 (br_t n ⟨rfl, iv_mk h8 hc hR⟩)))
end
section
/-! the owed statements: monad, dyad -/
section
variable {post : Int32 → SX → Prop} {c v sx sy dst : Nat} {x y : ra_A} {fv oa ol ov : Int32} {rk dm am xs ys xf yf fs fr wr wd : Nat → Int32}
theorem xm_monad (hv : v ≤ 5) (h8 : 8 ≤ c) (hc : c ≤ 32) (wy : ra_W c y) (hsy : sy < 4) (hds : dst < 4) (hx0 : ra_H rk dm am 11 (ra_sc 0)) (hy0 : ra_H rk dm am sy y)
    (hp0 : ra_OE c fv v (ra_sc 0) y 0 (if oa = 0 then nI (ra_dR v) else ov) ≠ 0 → ∀ rk' dm' am' xs' ys' xf' yf' fs' fr' wr' wd', (∀ j, j < 4 ∨ j = 11 → ra_S rk dm am rk' dm' am' j) → post (ra_OE c fv v (ra_sc 0) y 0 (if oa = 0 then nI (ra_dR v) else ov)) (nI c, fv, oa, ol, ov, rk', dm', am', xs', ys', xf', yf', fs', fr', wr', wd'))
    (hp1 : ra_OE c fv v (ra_sc 0) y 0 (if oa = 0 then nI (ra_dR v) else ov) = 0 → ∀ rk' dm' am' xs' ys' xf' yf' fs' fr' wr' wd', ra_H rk' dm' am' dst (ra_OA c fv v (ra_sc 0) y 0 (if oa = 0 then nI (ra_dR v) else ov)) → (∀ j, j < 4 ∨ j = 11 → j ≠ dst → ra_S rk dm am rk' dm' am' j) → post (nI (ra_cnt (ra_OA c fv v (ra_sc 0) y 0 (if oa = 0 then nI (ra_dR v) else ov)))) (nI c, fv, oa, ol, ov, rk', dm', am', xs', ys', xf', yf', fs', fr', wr', wd')) : wpX_monad post (nI c, fv, oa, ol, ov, rk, dm, am, xs, ys, xf, yf, fs, fr, wr, wd) (nI v) (nI sy) (nI dst) := by
  unfold wpX_monad
  refine xm_mon1 hv (br_f (by decide) (xm_reg1 hsy (br_f (by decide) (xm_reg1 hds (br_f (by decide) ?_)))))
  unfold wX_monad_46
  by_cases o : oa = 0
  · rw [if_pos o] at hp0 hp1
    refine br_t o (xm_rightRank (by omega) ?_)
    exact xm_call (sx := 11) (by omega) h8 hc (ra_sc_W (by omega) 0) wy (.inr rfl) hsy hds hx0 hy0 hp0 hp1
  · rw [if_neg o] at hp0 hp1
    refine br_f o ?_
    exact xm_call (sx := 11) (by omega) h8 hc (ra_sc_W (by omega) 0) wy (.inr rfl) hsy hds hx0 hy0 hp0 hp1
theorem xm_dyad (h6 : 6 ≤ v) (hv : v ≤ 12) (h8 : 8 ≤ c) (hc : c ≤ 32) (wx : ra_W c x) (wy : ra_W c y) (hsx : sx < 4) (hsy : sy < 4) (hds : dst < 4) (hx0 : ra_H rk dm am sx x) (hy0 : ra_H rk dm am sy y)
    (hp0 : ra_OE c fv v x y (if oa = 0 then nI (ra_dL v) else ol) (if oa = 0 then nI (ra_dR v) else ov) ≠ 0 → ∀ rk' dm' am' xs' ys' xf' yf' fs' fr' wr' wd', (∀ j, j < 4 ∨ j = 11 → ra_S rk dm am rk' dm' am' j) → post (ra_OE c fv v x y (if oa = 0 then nI (ra_dL v) else ol) (if oa = 0 then nI (ra_dR v) else ov)) (nI c, fv, oa, ol, ov, rk', dm', am', xs', ys', xf', yf', fs', fr', wr', wd'))
    (hp1 : ra_OE c fv v x y (if oa = 0 then nI (ra_dL v) else ol) (if oa = 0 then nI (ra_dR v) else ov) = 0 → ∀ rk' dm' am' xs' ys' xf' yf' fs' fr' wr' wd', ra_H rk' dm' am' dst (ra_OA c fv v x y (if oa = 0 then nI (ra_dL v) else ol) (if oa = 0 then nI (ra_dR v) else ov)) → (∀ j, j < 4 ∨ j = 11 → j ≠ dst → ra_S rk dm am rk' dm' am' j) → post (nI (ra_cnt (ra_OA c fv v x y (if oa = 0 then nI (ra_dL v) else ol) (if oa = 0 then nI (ra_dR v) else ov)))) (nI c, fv, oa, ol, ov, rk', dm', am', xs', ys', xf', yf', fs', fr', wr', wd')) : wpX_dyad post (nI c, fv, oa, ol, ov, rk, dm, am, xs, ys, xf, yf, fs, fr, wr, wd) (nI v) (nI sx) (nI sy) (nI dst) := by
  unfold wpX_dyad
  refine xm_dy1 h6 hv (br_f (by decide) (xm_reg1 hsx (br_f (by decide) (xm_reg1 hsy (br_f (by decide) (xm_reg1 hds (br_f (by decide) ?_)))))))
  unfold wX_dyad_55 wX_dyad_76
  by_cases o : oa = 0
  · rw [if_pos o, if_pos o] at hp0 hp1
    refine br_t o (xm_leftRank hv (br_t o (xm_rightRank hv ?_)))
    exact xm_call hv h8 hc wx wy (.inl hsx) hsy hds hx0 hy0 hp0 hp1
  · rw [if_neg o, if_neg o] at hp0 hp1
    refine br_f o (br_f o ?_)
    exact xm_call hv h8 hc wx wy (.inl hsx) hsy hds hx0 hy0 hp0 hp1
end
section
variable {post : Int32 → SY → Prop} {c v sx sy dst : Nat} {x y : ra_A} {fv oa ol ov : Int32} {rk dm am lx ly lm lfx lfy lfr lp lk lc lf lM : Nat → Int32}
theorem ym_monad (hv : v ≤ 5) (h8 : 8 ≤ c) (hc : c ≤ 32) (wy : ra_W c y) (hsy : sy < 4) (hds : dst < 4) (hy0 : ra_H rk dm am sy y)
    (hp0 : ra_OE c fv v (ra_sc 0) y 0 (if oa = 0 then nI (ra_dR v) else ov) ≠ 0 → ∀ rk' dm' am' lx' ly' lm' lfx' lfy' lfr' lp' lk' lc' lf' lM', (∀ j, j < 4 → ra_S rk dm am rk' dm' am' j) → post (ra_OE c fv v (ra_sc 0) y 0 (if oa = 0 then nI (ra_dR v) else ov)) (nI c, fv, oa, ol, ov, rk', dm', am', lx', ly', lm', lfx', lfy', lfr', lp', lk', lc', lf', lM'))
    (hp1 : ra_OE c fv v (ra_sc 0) y 0 (if oa = 0 then nI (ra_dR v) else ov) = 0 → ∀ rk' dm' am' lx' ly' lm' lfx' lfy' lfr' lp' lk' lc' lf' lM', ra_H rk' dm' am' dst (ra_OA c fv v (ra_sc 0) y 0 (if oa = 0 then nI (ra_dR v) else ov)) → (∀ j, j < 4 → j ≠ dst → ra_S rk dm am rk' dm' am' j) → post (nI (ra_cnt (ra_OA c fv v (ra_sc 0) y 0 (if oa = 0 then nI (ra_dR v) else ov)))) (nI c, fv, oa, ol, ov, rk', dm', am', lx', ly', lm', lfx', lfy', lfr', lp', lk', lc', lf', lM')) : wpY_monad post (nI c, fv, oa, ol, ov, rk, dm, am, lx, ly, lm, lfx, lfy, lfr, lp, lk, lc, lf, lM) (nI v) (nI sy) (nI dst) := by
  unfold wpY_monad
  refine br_f (nI_pos (by omega)) (br_t (nI_le (b := 5) hv (by decide)) (ym_ok1 hsy (br_f (by decide) (ym_ok1 hds (br_f (by decide) ?_)))))
  unfold wY_monad_51
  by_cases o : oa = 0
  · rw [if_pos o] at hp0 hp1
    refine br_t o (ym_drR (by omega) ?_)
    exact ym_call (mon := 1) (by omega) h8 hc (ra_sc_W (by omega) 0) wy (by decide) (by omega) (fun _ => rfl) hsy hsy hds (fun z => absurd z (by decide)) hy0 hp0 hp1
  · rw [if_neg o] at hp0 hp1
    refine br_f o ?_
    exact ym_call (mon := 1) (by omega) h8 hc (ra_sc_W (by omega) 0) wy (by decide) (by omega) (fun _ => rfl) hsy hsy hds (fun z => absurd z (by decide)) hy0 hp0 hp1
theorem ym_dyad (h6 : 6 ≤ v) (hv : v ≤ 12) (h8 : 8 ≤ c) (hc : c ≤ 32) (wx : ra_W c x) (wy : ra_W c y) (hsx : sx < 4) (hsy : sy < 4) (hds : dst < 4) (hx0 : ra_H rk dm am sx x) (hy0 : ra_H rk dm am sy y)
    (hp0 : ra_OE c fv v x y (if oa = 0 then nI (ra_dL v) else ol) (if oa = 0 then nI (ra_dR v) else ov) ≠ 0 → ∀ rk' dm' am' lx' ly' lm' lfx' lfy' lfr' lp' lk' lc' lf' lM', (∀ j, j < 4 → ra_S rk dm am rk' dm' am' j) → post (ra_OE c fv v x y (if oa = 0 then nI (ra_dL v) else ol) (if oa = 0 then nI (ra_dR v) else ov)) (nI c, fv, oa, ol, ov, rk', dm', am', lx', ly', lm', lfx', lfy', lfr', lp', lk', lc', lf', lM'))
    (hp1 : ra_OE c fv v x y (if oa = 0 then nI (ra_dL v) else ol) (if oa = 0 then nI (ra_dR v) else ov) = 0 → ∀ rk' dm' am' lx' ly' lm' lfx' lfy' lfr' lp' lk' lc' lf' lM', ra_H rk' dm' am' dst (ra_OA c fv v x y (if oa = 0 then nI (ra_dL v) else ol) (if oa = 0 then nI (ra_dR v) else ov)) → (∀ j, j < 4 → j ≠ dst → ra_S rk dm am rk' dm' am' j) → post (nI (ra_cnt (ra_OA c fv v x y (if oa = 0 then nI (ra_dL v) else ol) (if oa = 0 then nI (ra_dR v) else ov)))) (nI c, fv, oa, ol, ov, rk', dm', am', lx', ly', lm', lfx', lfy', lfr', lp', lk', lc', lf', lM')) : wpY_dyad post (nI c, fv, oa, ol, ov, rk, dm, am, lx, ly, lm, lfx, lfy, lfr, lp, lk, lc, lf, lM) (nI v) (nI sx) (nI sy) (nI dst) := by
  unfold wpY_dyad
  refine br_f (nI_nlt (b := 6) h6 (by omega)) (br_t (nI_le (b := 12) hv (by decide)) (ym_ok1 hsx (br_f (by decide) (ym_ok1 hsy (br_f (by decide) (ym_ok1 hds (br_f (by decide) ?_)))))))
  unfold wY_dyad_63 wY_dyad_85
  by_cases o : oa = 0
  · rw [if_pos o, if_pos o] at hp0 hp1
    refine br_t o (ym_drL hv ?_)
    intro z ez
    rw [ez h6]
    refine br_t o (ym_drR hv ?_)
    exact ym_call (mon := 0) hv h8 hc wx wy (by decide) (by omega) (fun z => absurd rfl z) hsx hsy hds (fun _ => hx0) hy0 hp0 hp1
  · rw [if_neg o, if_neg o] at hp0 hp1
    refine br_f o (br_f o ?_)
    exact ym_call (mon := 0) hv h8 hc wx wy (by decide) (by omega) (fun z => absurd rfl z) hsx hsy hds (fun _ => hx0) hy0 hp0 hp1
end
theorem i_vc_monad {k : Nat} {u : SX} {v : SY} (I : i_Rel k u v) (hk : k + 5 ≤ 2561) (v1 : Int32) (v2 : Int32) (v3 : Int32) : wpX_monad (fun r u' => wpY_monad (fun r' v' => r' = r ∧ i_Rel (k + 5) u' v') v v1 v2 v3) u v1 v2 v3 := by
  obtain ⟨c, fv, oa, ol, ov, rk, dm, am, xs, ys, xf, yf, fs, fr, wr, wd, rk', dm', am', lx', ly', lm', lfx', lfy', lfr', lp', lk', lc', lf', lM', -, h8, hc, rfl, rfl, hR⟩ := I

  have bad : (v1 < 0 ∨ 5 < v1) → wpX_monad (fun r u' => wpY_monad (fun r' v' => r' = r ∧ i_Rel (k + 5) u' v') (nI c, fv, oa, ol, ov, rk', dm', am', lx', ly', lm', lfx', lfy', lfr', lp', lk', lc', lf', lM') v1 v2 v3) (nI c, fv, oa, ol, ov, rk, dm, am, xs, ys, xf, yf, fs, fr, wr, wd) v1 v2 v3 := by
    intro h
    unfold wpX_monad wpY_monad
    refine xm_mon0 h (br_t rfl ?_)
    by_cases n : v1 < 0
    · exact br_t n ⟨rfl, iv_mk h8 hc hR⟩
    · exact br_f n (br_f (Int32.not_le.mpr (h.resolve_left n)) ⟨rfl, iv_mk h8 hc hR⟩)
  rcases iv_verb v1 with ⟨v, hv, rfl⟩ | ⟨v, h6, hv, rfl⟩ | h
  · have n0 : ¬ nI v < 0 := nI_pos (by omega)
    have n5 : nI v ≤ 5 := nI_le (b := 5) hv (by decide)
    rcases iv_reg v2 with h | ⟨sy, hsy, rfl⟩
    · unfold wpX_monad wpY_monad
      exact xm_mon1 hv (br_f (by decide) (xm_reg0 h (br_t rfl (br_f n0 (br_t n5 (ym_ok0 h (br_t rfl ⟨rfl, iv_mk h8 hc hR⟩)))))))
    rcases iv_reg v3 with h | ⟨d, hd, rfl⟩
    · unfold wpX_monad wpY_monad
      exact xm_mon1 hv (br_f (by decide) (xm_reg1 hsy (br_f (by decide) (xm_reg0 h (br_t rfl (br_f n0 (br_t n5 (ym_ok1 hsy (br_f (by decide) (ym_ok0 h (br_t rfl ⟨rfl, iv_mk h8 hc hR⟩)))))))))))
    obtain ⟨y, wy, hx, hy⟩ := hR.1 sy hsy
    refine xm_monad hv h8 hc wy hsy hd hR.2 hx ?_ ?_
    · intro e rk2 dm2 am2 xs2 ys2 xf2 yf2 fs2 fr2 wr2 wd2 sX
      refine ym_monad hv h8 hc wy hsy hd hy ?_ (fun z => absurd z e)
      intro _ rk3 dm3 am3 lx3 ly3 lm3 lfx3 lfy3 lfr3 lp3 lk3 lc3 lf3 lM3 sY
      exact ⟨rfl, iv_mk h8 hc (iv_keep hc (by omega) hR sX sY)⟩
    · intro e rk2 dm2 am2 xs2 ys2 xf2 yf2 fs2 fr2 wr2 wd2 hX2 sX
      refine ym_monad hv h8 hc wy hsy hd hy (fun z => absurd e z) ?_
      intro _ rk3 dm3 am3 lx3 ly3 lm3 lfx3 lfy3 lfr3 lp3 lk3 lc3 lf3 lM3 hY3 sY
      have wR : ra_W c (ra_OA c fv v (ra_sc 0) y 0 (if oa = 0 then nI (ra_dR v) else ov)) := ra_A_W (by omega) (ra_B_ok h8 hc (by omega)) (ra_sc_W (by omega) 0) wy (Nat.sub_le _ _) (Nat.sub_le _ _) e
      exact ⟨rfl, iv_mk h8 hc (iv_put hc (by omega) hR hd wR hX2 hY3 sX sY)⟩
  · exact bad (.inr (nI_lt (a := 5) (by omega) (by omega)))
  · exact bad (h.imp id (fun z => Int32.lt_trans (by decide) z))
theorem i_vc_dyad {k : Nat} {u : SX} {v : SY} (I : i_Rel k u v) (hk : k + 5 ≤ 2561) (v1 : Int32) (v2 : Int32) (v3 : Int32) (v4 : Int32) : wpX_dyad (fun r u' => wpY_dyad (fun r' v' => r' = r ∧ i_Rel (k + 5) u' v') v v1 v2 v3 v4) u v1 v2 v3 v4 := by
  obtain ⟨c, fv, oa, ol, ov, rk, dm, am, xs, ys, xf, yf, fs, fr, wr, wd, rk', dm', am', lx', ly', lm', lfx', lfy', lfr', lp', lk', lc', lf', lM', -, h8, hc, rfl, rfl, hR⟩ := I

  have bad : (v1 < 6 ∨ 12 < v1) → wpX_dyad (fun r u' => wpY_dyad (fun r' v' => r' = r ∧ i_Rel (k + 5) u' v') (nI c, fv, oa, ol, ov, rk', dm', am', lx', ly', lm', lfx', lfy', lfr', lp', lk', lc', lf', lM') v1 v2 v3 v4) (nI c, fv, oa, ol, ov, rk, dm, am, xs, ys, xf, yf, fs, fr, wr, wd) v1 v2 v3 v4 := by
    intro h
    unfold wpX_dyad wpY_dyad
    refine xm_dy0 h (br_t rfl ?_)
    by_cases n : v1 < 6
    · exact br_t n ⟨rfl, iv_mk h8 hc hR⟩
    · exact br_f n (br_f (Int32.not_le.mpr (h.resolve_left n)) ⟨rfl, iv_mk h8 hc hR⟩)
  rcases iv_verb v1 with ⟨v, hv, rfl⟩ | ⟨v, h6, hv, rfl⟩ | h
  · exact bad (.inl (nI_lt (b := 6) (by omega) (by decide)))
  · have n6 : ¬ nI v < 6 := nI_nlt (b := 6) h6 (by omega)
    have n12 : nI v ≤ 12 := nI_le (b := 12) hv (by decide)
    rcases iv_reg v2 with h | ⟨sx, hsx, rfl⟩
    · unfold wpX_dyad wpY_dyad
      exact xm_dy1 h6 hv (br_f (by decide) (xm_reg0 h (br_t rfl (br_f n6 (br_t n12 (ym_ok0 h (br_t rfl ⟨rfl, iv_mk h8 hc hR⟩)))))))
    rcases iv_reg v3 with h | ⟨sy, hsy, rfl⟩
    · unfold wpX_dyad wpY_dyad
      exact xm_dy1 h6 hv (br_f (by decide) (xm_reg1 hsx (br_f (by decide) (xm_reg0 h (br_t rfl (br_f n6 (br_t n12 (ym_ok1 hsx (br_f (by decide) (ym_ok0 h (br_t rfl ⟨rfl, iv_mk h8 hc hR⟩)))))))))))
    rcases iv_reg v4 with h | ⟨d, hd, rfl⟩
    · unfold wpX_dyad wpY_dyad
      exact xm_dy1 h6 hv (br_f (by decide) (xm_reg1 hsx (br_f (by decide) (xm_reg1 hsy (br_f (by decide) (xm_reg0 h (br_t rfl (br_f n6 (br_t n12 (ym_ok1 hsx (br_f (by decide) (ym_ok1 hsy (br_f (by decide) (ym_ok0 h (br_t rfl ⟨rfl, iv_mk h8 hc hR⟩)))))))))))))))
    obtain ⟨x, wx, ax, ay⟩ := hR.1 sx hsx
    obtain ⟨y, wy, hx, hy⟩ := hR.1 sy hsy
    refine xm_dyad h6 hv h8 hc wx wy hsx hsy hd ax hx ?_ ?_
    · intro e rk2 dm2 am2 xs2 ys2 xf2 yf2 fs2 fr2 wr2 wd2 sX
      refine ym_dyad h6 hv h8 hc wx wy hsx hsy hd ay hy ?_ (fun z => absurd z e)
      intro _ rk3 dm3 am3 lx3 ly3 lm3 lfx3 lfy3 lfr3 lp3 lk3 lc3 lf3 lM3 sY
      exact ⟨rfl, iv_mk h8 hc (iv_keep hc (by omega) hR sX sY)⟩
    · intro e rk2 dm2 am2 xs2 ys2 xf2 yf2 fs2 fr2 wr2 wd2 hX2 sX
      refine ym_dyad h6 hv h8 hc wx wy hsx hsy hd ay hy (fun z => absurd e z) ?_
      intro _ rk3 dm3 am3 lx3 ly3 lm3 lfx3 lfy3 lfr3 lp3 lk3 lc3 lf3 lM3 hY3 sY
      have wR : ra_W c (ra_OA c fv v x y (if oa = 0 then nI (ra_dL v) else ol) (if oa = 0 then nI (ra_dR v) else ov)) := ra_A_W (by omega) (ra_B_ok h8 hc hv) wx wy (Nat.sub_le _ _) (Nat.sub_le _ _) e
      exact ⟨rfl, iv_mk h8 hc (iv_put hc (by omega) hR hd wR hX2 hY3 sX sY)⟩
  · exact bad (h.imp (fun z => Int32.lt_trans z (by decide)) id)
end
section
/-! the owed statement: make -/
section
variable {post : Int32 → SX → Prop} {c s tot : Nat} {d0 d1 d2 z0 : Int32} {fv oa ol ov : Int32} {rk dm am xs ys xf yf fs fr wr wd : Nat → Int32}
theorem xm_make135 (hs : s < 4) (ht : tot ≤ 32) (hp : post (nI tot) (nI c, fv, oa, ol, ov, upd rk s z0, upd (upd (upd dm (s * 3) d0) (s * 3 + 1) d1) (s * 3 + 2) d2, ra_blk am (s * 32) tot nI, xs, ys, xf, yf, fs, fr, wr, wd)) :
    wX_make_135 post (nI s) d0 d1 d2 (nI tot) z0 (nI s) (nI c) fv oa ol ov rk dm am xs ys xf yf fs fr wr wd := by
  unfold wX_make_135
  simp (disch := omega) only [ra_m3, nI_1, ra_a2, nI_clamp, ra_inI, true_and, forall_eq]
  refine ra_loop0 (fun n i => wX_make_171 post (nI s) (nI tot) (nI c) fv oa ol ov n (nI i) (upd rk s z0) (upd (upd (upd dm (s * 3) d0) (s * 3 + 1) d1) (s * 3 + 2) d2) (ra_blk am (s * 32) i nI) xs ys xf yf fs fr wr wd) tot (fun n => ?_) (fun n i hi ih => ?_) (fun n h => ?_)
  · simp only [wX_make_171]
    exact br_t (nI_le (Nat.le_refl _) (by omega)) hp
  · simp (disch := omega) only [wX_make_171, ra_m32, nI_add, nI_clamp, ra_inI, true_and, forall_eq, nI_1]
    refine br_f (nI_ge hi (by omega)) ?_
    rw [ra_blk_s rfl]
    exact ih
  · rw [ra_blk_0] at h
    exact h
theorem xm_make31 (hs : s < 4) (v01 : d0 < 0 → d1 < 0) (v12 : d1 < 0 → d2 < 0) (hp : wX_make_31 post (nI s) d0 d1 d2 (nI c) fv oa ol ov rk dm am xs ys xf yf fs fr wr wd) : wpX_make post (nI c, fv, oa, ol, ov, rk, dm, am, xs, ys, xf, yf, fs, fr, wr, wd) (nI s) d0 d1 d2 := by
  have m19 : wX_make_19 post (nI s) d0 d1 d2 (nI c) fv oa ol ov rk dm am xs ys xf yf fs fr wr wd := by
    unfold wX_make_19
    by_cases n1 : d1 < 0
    · exact br_f (Int32.not_le.mpr n1) (br_t (v12 n1) hp)
    · exact br_t (Int32.not_lt.mp n1) hp
  unfold wpX_make
  refine xm_reg1 hs (br_f (by decide) ?_)
  by_cases n0 : d0 < 0
  · exact br_f (Int32.not_le.mpr n0) (br_f (Int32.not_le.mpr (v01 n0)) m19)
  · exact br_t (Int32.not_lt.mp n0) m19
theorem xm_makeB (hs : s < 4) (h : (d0 < 0 ∧ ¬ d1 < 0) ∨ (d1 < 0 ∧ ¬ d2 < 0)) (hp : post (-5) (nI c, fv, oa, ol, ov, rk, dm, am, xs, ys, xf, yf, fs, fr, wr, wd)) : wpX_make post (nI c, fv, oa, ol, ov, rk, dm, am, xs, ys, xf, yf, fs, fr, wr, wd) (nI s) d0 d1 d2 := by
  unfold wpX_make wX_make_19
  refine xm_reg1 hs (br_f (by decide) ?_)
  by_cases n1 : d1 < 0
  · have n2 : ¬ d2 < 0 := h.elim (fun z => absurd n1 z.2) (fun z => z.2)
    by_cases n0 : d0 < 0
    · exact br_f (Int32.not_le.mpr n0) (br_f (Int32.not_le.mpr n1) (br_f (Int32.not_le.mpr n1) (br_f n2 hp)))
    · exact br_t (Int32.not_lt.mp n0) (br_f (Int32.not_le.mpr n1) (br_f n2 hp))
  · have n0 : d0 < 0 := h.elim (fun z => z.1) (fun z => absurd z.1 n1)
    exact br_f (Int32.not_le.mpr n0) (br_t (Int32.not_lt.mp n1) hp)
end
section
variable {post : Int32 → SY → Prop} {c s tot : Nat} {d0 d1 d2 z0 : Int32} {fv oa ol ov : Int32} {rk dm am lx ly lm lfx lfy lfr lp lk lc lf lM : Nat → Int32}
theorem ym_make111 (hs : s < 4) (hc : c ≤ 32) (hb : tot < 2 ^ 31) (h0 : ¬ tot ≤ c → post (-4) (nI c, fv, oa, ol, ov, rk, dm, am, lx, ly, lm, lfx, lfy, lfr, lp, lk, lc, lf, lM))
    (h1 : tot ≤ c → post (nI tot) (nI c, fv, oa, ol, ov, upd rk s z0, upd (upd (upd dm (s * 3) d0) (s * 3 + 1) d1) (s * 3 + 2) d2, ra_blk am (s * 32) tot nI, lx, ly, lm, lfx, lfy, lfr, lp, lk, lc, lf, lM)) :
    wY_make_111 post (nI s) d0 d1 d2 z0 (nI tot) (nI c) fv oa ol ov rk dm am lx ly lm lfx lfy lfr lp lk lc lf lM := by
  unfold wY_make_111
  by_cases g : tot ≤ c
  · refine br_t (nI_le g (by omega)) ?_
    simp (disch := omega) only [ra_m3, nI_1, ra_a2, nI_clamp, ra_inI, true_and, forall_eq]
    refine ra_loop0 (fun n i => wY_make_166 post (nI s) (nI tot) (nI c) fv oa ol ov n (nI i) (upd rk s z0) (upd (upd (upd dm (s * 3) d0) (s * 3 + 1) d1) (s * 3 + 2) d2) (ra_blk am (s * 32) i nI) lx ly lm lfx lfy lfr lp lk lc lf lM) tot (fun n => ?_) (fun n i hi ih => ?_) (fun n h => ?_)
    · simp only [wY_make_166]
      exact br_t (nI_le (Nat.le_refl _) (by omega)) (h1 g)
    · simp (disch := omega) only [wY_make_166, ra_m32, nI_add, nI_clamp, ra_inI, true_and, forall_eq, nI_1]
      refine br_f (nI_ge hi (by omega)) (br_f (by rw [ra_le32 (by omega)]; omega) ?_)
      rw [ra_blk_s rfl]
      exact ih
    · rw [ra_blk_0] at h
      exact h
  · exact br_f (nI_ge (by omega) hb) (h0 g)
theorem ym_make39 (hs : s < 4) (v01 : d0 < 0 → d1 < 0) (v12 : d1 < 0 → d2 < 0) (hp : wY_make_39 post (nI s) d0 d1 d2 (nI c) fv oa ol ov rk dm am lx ly lm lfx lfy lfr lp lk lc lf lM) : wpY_make post (nI c, fv, oa, ol, ov, rk, dm, am, lx, ly, lm, lfx, lfy, lfr, lp, lk, lc, lf, lM) (nI s) d0 d1 d2 := by
  have m27 : wY_make_27 post (nI s) d0 d1 d2 (nI c) fv oa ol ov rk dm am lx ly lm lfx lfy lfr lp lk lc lf lM := by
    unfold wY_make_27
    by_cases n1 : d1 < 0
    · exact br_f (Int32.not_le.mpr n1) (br_t (v12 n1) hp)
    · exact br_t (Int32.not_lt.mp n1) hp
  unfold wpY_make
  refine ym_ok1 hs (br_f (by decide) ?_)
  by_cases n0 : d0 < 0
  · exact br_f (Int32.not_le.mpr n0) (br_f (Int32.not_le.mpr (v01 n0)) (br_t (v12 (v01 n0)) m27))
  · exact br_t (Int32.not_lt.mp n0) m27
theorem ym_makeB (hs : s < 4) (h : (d0 < 0 ∧ ¬ d1 < 0) ∨ (d1 < 0 ∧ ¬ d2 < 0)) (hp : post (-5) (nI c, fv, oa, ol, ov, rk, dm, am, lx, ly, lm, lfx, lfy, lfr, lp, lk, lc, lf, lM)) : wpY_make post (nI c, fv, oa, ol, ov, rk, dm, am, lx, ly, lm, lfx, lfy, lfr, lp, lk, lc, lf, lM) (nI s) d0 d1 d2 := by
  unfold wpY_make wY_make_27
  refine ym_ok1 hs (br_f (by decide) ?_)
  by_cases n1 : d1 < 0
  · have n2 : ¬ d2 < 0 := h.elim (fun z => absurd n1 z.2) (fun z => z.2)
    by_cases n0 : d0 < 0
    · exact br_f (Int32.not_le.mpr n0) (br_f (Int32.not_le.mpr n1) (br_f n2 hp))
    · exact br_t (Int32.not_lt.mp n0) (br_f (Int32.not_le.mpr n1) (br_f n2 hp))
  · have n0 : d0 < 0 := h.elim (fun z => z.1) (fun z => absurd z.1 n1)
    exact br_f (Int32.not_le.mpr n0) (br_t (Int32.not_lt.mp n1) hp)
end
theorem iv_H3 {rk dm am : Nat → Int32} {s r tot : Nat} {d0 d1 d2 : Int32} {dd : Nat → Nat} (hr : r ≤ 3) (hcnt : ra_prod dd 0 r = tot) (e0 : 0 < r → d0 = nI (dd 0)) (e1 : 1 < r → d1 = nI (dd 1)) (e2 : 2 < r → d2 = nI (dd 2)) :
    ra_H (upd rk s (nI r)) (upd (upd (upd dm (s * 3) d0) (s * 3 + 1) d1) (s * 3 + 2) d2) (ra_blk am (s * 32) tot nI) s (r, dd, nI) := by
  refine ⟨pk_us, fun i hi => ?_, fun i hi => ?_⟩
  · have hi' : i < r := hi
    show upd (upd (upd dm (s * 3) d0) (s * 3 + 1) d1) (s * 3 + 2) d2 (s * 3 + i) = nI (dd i)
    match i, hi' with
    | 0, h => rw [pk_un (by omega), pk_un (by omega)]; exact pk_us.trans (e0 h)
    | 1, h => rw [pk_un (by omega)]; exact pk_us.trans (e1 h)
    | 2, h => exact pk_us.trans (e2 h)
    | i + 3, h => omega
  · have hi' : i < tot := by rw [← hcnt]; exact hi
    exact ra_blk_in hi'
theorem iv_make {k c s r tot : Nat} {d0 d1 d2 : Int32} {fv oa ol ov : Int32} {rk dm am xs ys xf yf fs fr wr wd rk' dm' am' lx' ly' lm' lfx' lfy' lfr' lp' lk' lc' lf' lM' : Nat → Int32} {dd : Nat → Nat} (h8 : 8 ≤ c) (hc : c ≤ 32) (hR : iv_R c rk dm am rk' dm' am') (hs : s < 4)
    (hr : r ≤ 3) (hdd : ∀ i, i < r → dd i ≤ c) (hcnt : ra_prod dd 0 r = tot) (e0 : 0 < r → d0 = nI (dd 0)) (e1 : 1 < r → d1 = nI (dd 1)) (e2 : 2 < r → d2 = nI (dd 2)) (hb : tot < 2 ^ 31)
    (hX : ∀ post : Int32 → SX → Prop, (¬ tot ≤ c → post (-4) (nI c, fv, oa, ol, ov, rk, dm, am, xs, ys, xf, yf, fs, fr, wr, wd)) → (tot ≤ c → wX_make_135 post (nI s) d0 d1 d2 (nI tot) (nI r) (nI s) (nI c) fv oa ol ov rk dm am xs ys xf yf fs fr wr wd) → wpX_make post (nI c, fv, oa, ol, ov, rk, dm, am, xs, ys, xf, yf, fs, fr, wr, wd) (nI s) d0 d1 d2)
    (hY : ∀ post : Int32 → SY → Prop, wY_make_111 post (nI s) d0 d1 d2 (nI r) (nI tot) (nI c) fv oa ol ov rk' dm' am' lx' ly' lm' lfx' lfy' lfr' lp' lk' lc' lf' lM' → wpY_make post (nI c, fv, oa, ol, ov, rk', dm', am', lx', ly', lm', lfx', lfy', lfr', lp', lk', lc', lf', lM') (nI s) d0 d1 d2) :
    wpX_make (fun r u' => wpY_make (fun r' v' => r' = r ∧ i_Rel k u' v') (nI c, fv, oa, ol, ov, rk', dm', am', lx', ly', lm', lfx', lfy', lfr', lp', lk', lc', lf', lM') (nI s) d0 d1 d2) (nI c, fv, oa, ol, ov, rk, dm, am, xs, ys, xf, yf, fs, fr, wr, wd) (nI s) d0 d1 d2 := by
  refine hX _ (fun g => hY _ (ym_make111 hs hc hb (fun _ => ⟨rfl, iv_mk h8 hc hR⟩) (fun z => absurd z g))) (fun g => xm_make135 hs (by omega) (hY _ (ym_make111 hs hc hb (fun z => absurd g z) (fun _ => ⟨rfl, iv_mk h8 hc ?_⟩))))
  refine iv_put (a := (r, dd, nI)) hc (by omega) hR hs ⟨hr, hdd, Nat.le_trans (Nat.le_of_eq hcnt) g⟩ (iv_H3 hr hcnt e0 e1 e2) (iv_H3 hr hcnt e0 e1 e2) (fun j _ hj => ?_) (fun j _ hj => ?_)
  · exact ⟨pk_un hj, fun i hi => by rw [pk_un (by omega), pk_un (by omega), pk_un (by omega)], fun i hi => ra_blk_out (by omega)⟩
  · exact ⟨pk_un hj, fun i hi => by rw [pk_un (by omega), pk_un (by omega), pk_un (by omega)], fun i hi => ra_blk_out (by omega)⟩
end
section
/-! the owed statement: make, by its four shapes -/
theorem i_vc_make {k : Nat} {u : SX} {v : SY} (I : i_Rel k u v) (hk : k + 5 ≤ 2561) (v1 : Int32) (v2 : Int32) (v3 : Int32) (v4 : Int32) : wpX_make (fun r u' => wpY_make (fun r' v' => r' = r ∧ i_Rel (k + 5) u' v') v v1 v2 v3 v4) u v1 v2 v3 v4 := by
  obtain ⟨c, fv, oa, ol, ov, rk, dm, am, xs, ys, xf, yf, fs, fr, wr, wd, rk', dm', am', lx', ly', lm', lfx', lfy', lfr', lp', lk', lc', lf', lM', -, h8, hc, rfl, rfl, hR⟩ := I

  rcases iv_reg v1 with h | ⟨s, hs, rfl⟩
  · unfold wpX_make wpY_make
    exact xm_reg0 h (br_t rfl (ym_ok0 h (br_t rfl ⟨rfl, iv_mk h8 hc hR⟩)))
  by_cases b1 : v2 < 0 ∧ ¬ v3 < 0
  · exact xm_makeB hs (.inl b1) (ym_makeB hs (.inl b1) ⟨rfl, iv_mk h8 hc hR⟩)
  by_cases b2 : v3 < 0 ∧ ¬ v4 < 0
  · exact xm_makeB hs (.inr b2) (ym_makeB hs (.inr b2) ⟨rfl, iv_mk h8 hc hR⟩)
  have v01 : v2 < 0 → v3 < 0 := fun z => Classical.byContradiction fun y => b1 ⟨z, y⟩
  have v12 : v3 < 0 → v4 < 0 := fun z => Classical.byContradiction fun y => b2 ⟨z, y⟩
  by_cases c0 : nI c < v2
  · refine xm_make31 hs v01 v12 ?_
    unfold wX_make_31
    refine br_t c0 (ym_make39 hs v01 v12 ?_)
    unfold wY_make_39
    exact br_t c0 ⟨rfl, iv_mk h8 hc hR⟩
  by_cases c1 : nI c < v3
  · refine xm_make31 hs v01 v12 ?_
    unfold wX_make_31
    refine br_f c0 (br_t c1 (ym_make39 hs v01 v12 ?_))
    unfold wY_make_39
    exact br_f c0 (br_t c1 ⟨rfl, iv_mk h8 hc hR⟩)
  by_cases c2 : nI c < v4
  · refine xm_make31 hs v01 v12 ?_
    unfold wX_make_31
    refine br_f c0 (br_f c1 (br_f (Int32.not_le.mpr c2) (ym_make39 hs v01 v12 ?_)))
    unfold wY_make_39
    exact br_f c0 (br_f c1 (br_f (Int32.not_le.mpr c2) ⟨rfl, iv_mk h8 hc hR⟩))
  have l2 : v4 ≤ nI c := Int32.not_lt.mp c2
  by_cases n0 : v2 < 0
  · have n1 := v01 n0
    have n2 := v12 n1
    have m0 : ¬ 0 ≤ v2 := Int32.not_le.mpr n0
    have m1 : ¬ 0 ≤ v3 := Int32.not_le.mpr n1
    have m2 : ¬ 0 ≤ v4 := Int32.not_le.mpr n2
    refine iv_make (r := 0) (tot := 1) (dd := fun _ => 0) h8 hc hR hs (by decide) (fun i hi => absurd hi (Nat.not_lt_zero i)) rfl (fun z => absurd z (by decide)) (fun z => absurd z (by decide)) (fun z => absurd z (by decide)) (by decide) ?_ ?_
    · intro post h4 h5
      refine xm_make31 hs v01 v12 ?_
      unfold wX_make_31 wX_make_68 wX_make_77 wX_make_89
      refine br_f c0 (br_f c1 (br_t l2 (br_f m0 (br_f m1 (br_f m2 (nm_r (e' := nI 1) (by decide) ?_))))))
      exact br_t (nI_le (by omega) (by omega)) (br_f m0 (h5 (by omega)))
    · intro post h5
      refine ym_make39 hs v01 v12 ?_
      unfold wY_make_39 wY_make_83 wY_make_96
      exact br_f c0 (br_f c1 (br_t l2 (br_t n0 (br_t n1 (br_t n2 h5)))))
  obtain ⟨a, ha, rfl⟩ := nI_of n0
  have la : a ≤ c := by rw [nI_ltI (by omega) ha] at c0; omega
  have m0 : 0 ≤ nI a := nI_pos' ha
  by_cases n1 : v3 < 0
  · have n2 := v12 n1
    have m1 : ¬ 0 ≤ v3 := Int32.not_le.mpr n1
    have m2 : ¬ 0 ≤ v4 := Int32.not_le.mpr n2
    refine iv_make (r := 1) (tot := a) (dd := fun _ => a) h8 hc hR hs (by decide) (fun i hi => la) (by show 1 * a = a; omega) (fun _ => rfl) (fun z => absurd z (by decide)) (fun z => absurd z (by decide)) ha ?_ ?_
    · intro post h4 h5
      refine xm_make31 hs v01 v12 ?_
      unfold wX_make_31 wX_make_68 wX_make_77 wX_make_89
      refine br_f c0 (br_f c1 (br_t l2 (br_t m0 (br_f m1 (br_f m2 (nm_r (e' := nI a) (by rw [Int32.mul_one, Int32.mul_one]) ?_))))))
      exact br_t (nI_le la (by omega)) (br_t m0 (br_f m1 (h5 la)))
    · intro post h5
      refine ym_make39 hs v01 v12 ?_
      unfold wY_make_39 wY_make_83 wY_make_96
      exact br_f c0 (br_f c1 (br_t l2 (br_f n0 (br_t n1 (br_t n2 h5)))))
  obtain ⟨b, hb, rfl⟩ := nI_of n1
  have lb : b ≤ c := by rw [nI_ltI (by omega) hb] at c1; omega
  have m1 : 0 ≤ nI b := nI_pos' hb
  have ab : a * b ≤ 32 * 32 := Nat.mul_le_mul (by omega) (by omega)
  by_cases n2 : v4 < 0
  · have m2 : ¬ 0 ≤ v4 := Int32.not_le.mpr n2
    refine iv_make (r := 2) (tot := a * b) (dd := fun i => if i = 0 then a else b) h8 hc hR hs (by decide) (fun i hi => by show (if i = 0 then a else b) ≤ c; split <;> assumption) (by show 1 * a * b = a * b; rw [Nat.one_mul]) (fun _ => rfl) (fun _ => rfl) (fun z => absurd z (by decide)) (by omega) ?_ ?_
    · intro post h4 h5
      refine xm_make31 hs v01 v12 ?_
      unfold wX_make_31 wX_make_68 wX_make_77 wX_make_89
      refine br_f c0 (br_f c1 (br_t l2 (br_t m0 (br_t m1 (br_f m2 (nm_r (e' := nI (a * b)) (by rw [Int32.mul_one, pk_mul]) ?_))))))
      by_cases g : a * b ≤ c
      · exact br_t (nI_le g (by omega)) (br_t m0 (br_t m1 (br_f m2 (h5 g))))
      · exact br_f (nI_ge (by omega) (by omega)) (h4 g)
    · intro post h5
      refine ym_make39 hs v01 v12 ?_
      unfold wY_make_39 wY_make_83 wY_make_96
      exact br_f c0 (br_f c1 (br_t l2 (br_f n0 (br_f n1 (nm_r (pk_mul a b) (br_t n2 h5))))))
  obtain ⟨d, hd, rfl⟩ := nI_of n2
  have ld : d ≤ c := by rw [nI_ltI (by omega) hd] at c2; omega
  have m2 : 0 ≤ nI d := nI_pos' hd
  have abd : a * b * d ≤ 32 * 32 * 32 := Nat.mul_le_mul ab (by omega)
  refine iv_make (r := 3) (tot := a * b * d) (dd := fun i => if i = 0 then a else if i = 1 then b else d) h8 hc hR hs (by decide) (fun i hi => by show (if i = 0 then a else if i = 1 then b else d) ≤ c; split <;> (try split) <;> assumption) (by show 1 * a * b * d = a * b * d; rw [Nat.one_mul]) (fun _ => rfl) (fun _ => rfl) (fun _ => rfl) (by omega) ?_ ?_
  · intro post h4 h5
    refine xm_make31 hs v01 v12 ?_
    unfold wX_make_31 wX_make_68 wX_make_77 wX_make_89
    refine br_f c0 (br_f c1 (br_t l2 (br_t m0 (br_t m1 (br_t m2 (nm_r (e' := nI (a * b * d)) (by rw [pk_mul, pk_mul]) ?_))))))
    by_cases g : a * b * d ≤ c
    · exact br_t (nI_le g (by omega)) (br_t m0 (br_t m1 (br_t m2 (h5 g))))
    · exact br_f (nI_ge (by omega) (by omega)) (h4 g)
  · intro post h5
    refine ym_make39 hs v01 v12 ?_
    unfold wY_make_39 wY_make_83 wY_make_96
    exact br_f c0 (br_f c1 (br_t l2 (br_f n0 (br_f n1 (nm_r (pk_mul a b) (br_f n2 (nm_r (pk_mul (a * b) d) h5)))))))
end
