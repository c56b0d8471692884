/-! blocks written into an array, loops, numbers -/
def ra_blk (a : Nat → Int32) (d n : Nat) (g : Nat → Int32) : Nat → Int32 := fun j => if d ≤ j ∧ j < d + n then g (j - d) else a j
theorem ra_blk_0 {a : Nat → Int32} {d : Nat} {g : Nat → Int32} : ra_blk a d 0 g = a := funext fun j => if_neg (by omega)
theorem ra_blk_in {a : Nat → Int32} {d n i : Nat} {g : Nat → Int32} (h : i < n) : ra_blk a d n g (d + i) = g i := by
  unfold ra_blk
  rw [if_pos (by omega), Nat.add_sub_cancel_left]
theorem ra_blk_out {a : Nat → Int32} {d n j : Nat} {g : Nat → Int32} (h : j < d ∨ d + n ≤ j) : ra_blk a d n g j = a j := if_neg (by omega)
theorem ra_blk_s {a : Nat → Int32} {d n : Nat} {g : Nat → Int32} {v : Int32} (hv : v = g n) : upd (ra_blk a d n g) (d + n) v = ra_blk a d (n + 1) g := funext fun j => by
  subst hv
  by_cases e : j = d + n
  · subst e
    rw [pk_us, ra_blk_in (Nat.lt_succ_self n)]
  · rw [pk_un e]
    by_cases h : d ≤ j ∧ j < d + n
    · obtain ⟨i, rfl⟩ : ∃ i, j = d + i := ⟨j - d, by omega⟩
      rw [ra_blk_in (by omega), ra_blk_in (by omega)]
    · rw [ra_blk_out (by omega), ra_blk_out (by omega)]
/-- two blocks, one behind the other -/
theorem ra_blk_blk {a : Nat → Int32} {d n m : Nat} {g h : Nat → Int32} (e : ∀ i, i < m → h i = g (n + i)) : ra_blk (ra_blk a d n g) (d + n) m h = ra_blk a d (n + m) g := funext fun j => by
  by_cases z : d + n ≤ j ∧ j < d + n + m
  · obtain ⟨i, rfl⟩ : ∃ i, j = d + n + i := ⟨j - (d + n), by omega⟩
    rw [ra_blk_in (by omega), e i (by omega), Nat.add_assoc, ra_blk_in (by omega)]
  · rw [ra_blk_out (by omega)]
    by_cases y : d ≤ j ∧ j < d + n
    · obtain ⟨i, rfl⟩ : ∃ i, j = d + i := ⟨j - d, by omega⟩
      rw [ra_blk_in (by omega), ra_blk_in (by omega)]
    · rw [ra_blk_out (by omega), ra_blk_out (by omega)]
/-- a loop whose state is a function of its counter -/
theorem ra_loop (W : Nat → Nat → Prop) (e : Nat) (hx : ∀ n, W (n + 1) e) (hs : ∀ n i, i < e → W n (i + 1) → W (n + 1) i) : ∀ i, i ≤ e → ∃ n, W n i := by
  have key : ∀ k i, i + k = e → ∀ m, W (m + k + 1) i := by
    intro k
    induction k with
    | zero =>
      intro i h m
      have h' : e = i := by omega
      subst h'
      exact hx m
    | succ k ih => intro i h m; exact hs (m + k + 1) i (by omega) (ih (i + 1) (by omega) m)
  intro i h
  exact ⟨0 + (e - i) + 1, key (e - i) i (by omega) 0⟩
theorem ra_loop0 {W0 : Nat → Prop} (W : Nat → Nat → Prop) (e : Nat) (hx : ∀ n, W (n + 1) e) (hs : ∀ n i, i < e → W n (i + 1) → W (n + 1) i) (h0 : ∀ n, W n 0 → W0 n) : ∃ n, W0 n :=
  let ⟨n, h⟩ := ra_loop W e hx hs 0 (Nat.zero_le e)
  ⟨n, h0 n h⟩
/-- a loop with a state that changes -/
theorem ra_loopS {σ : Type} (W : Nat → Nat → σ → Prop) (I : Nat → σ → Prop) (e : Nat) (hx : ∀ n s, I e s → W (n + 1) e s)
    (hs : ∀ n i s, i < e → I i s → (∀ s', I (i + 1) s' → W n (i + 1) s') → W (n + 1) i s) : ∀ i s, i ≤ e → I i s → ∃ n, W n i s := by
  have key : ∀ k i, i + k = e → ∀ m s, I i s → W (m + k + 1) i s := by
    intro k
    induction k with
    | zero =>
      intro i h m s hI
      have h' : e = i := by omega
      subst h'
      exact hx m s hI
    | succ k ih => intro i h m s hI; exact hs (m + k + 1) i s (by omega) hI (fun s' h' => ih (i + 1) (by omega) m s' h')
  intro i s h hI
  exact ⟨0 + (e - i) + 1, key (e - i) i (by omega) 0 s hI⟩
/-! numbers -/
theorem ra_m3 (s : Nat) : nI s * 3 = nI (s * 3) := pk_mul s 3
theorem ra_m32 (s : Nat) : nI s * 32 = nI (s * 32) := pk_mul s 32
theorem ra_a2 (s : Nat) : nI s + 2 = nI (s + 2) := nI_add s 2
theorem ra_k8 (i : Nat) : (8 : Int32) + nI i = nI (8 + i) := nI_add 8 i
theorem ra_k4 (i : Nat) : (4 : Int32) + nI i = nI (4 + i) := nI_add 4 i
theorem ra_k6 (i : Nat) : (6 : Int32) + nI i = nI (6 + i) := nI_add 6 i
theorem ra_k30 (i : Nat) : (30 : Int32) + nI i = nI (30 + i) := nI_add 30 i
theorem ra_k21 (i : Nat) : (21 : Int32) + nI i = nI (21 + i) := nI_add 21 i
theorem ra_k22 (i : Nat) : (22 : Int32) + nI i = nI (22 + i) := nI_add 22 i
theorem ra_k15 (i : Nat) : (15 : Int32) + nI i = nI (15 + i) := nI_add 15 i
theorem ra_k160 (i : Nat) : (160 : Int32) + nI i = nI (160 + i) := nI_add 160 i
theorem ra_k224 (i : Nat) : (224 : Int32) + nI i = nI (224 + i) := nI_add 224 i
theorem ra_k320 (i : Nat) : (320 : Int32) + nI i = nI (320 + i) := nI_add 320 i
theorem ra_inI {k N : Nat} (h : k < N) (hN : N < 2 ^ 31) : vp_in (nI k) N ↔ True := ⟨fun _ => True.intro, fun _ => vp_in_nI h hN⟩
theorem ra_divM {n q M : Nat} (h1 : q * M ≤ n) (h2 : n < q * M + M) : n / M = q ∧ n % M = n - q * M := by
  obtain ⟨i, rfl⟩ : ∃ i, n = q * M + i := ⟨n - q * M, by omega⟩
  have hi : i < M := by omega
  have p : 0 < M := by omega
  constructor
  · rw [Nat.mul_comm, Nat.mul_add_div p, Nat.div_eq_of_lt hi, Nat.add_zero]
  · rw [Nat.mul_comm, Nat.mul_add_mod, Nat.mod_eq_of_lt hi]; omega
theorem ra_step {n q M : Nat} (h : n < (q + 1) * M) : n < q * M ∨ (q * M ≤ n ∧ n < q * M + M) := by
  rw [Nat.succ_mul] at h; omega
/-- what is in a cell's part lies within the whole -/
theorem ra_part {q P M t c : Nat} (hq : q < P) (h : P * M ≤ c) (ht : t < M) : q * M + t < c := by
  have : (q + 1) * M ≤ P * M := Nat.mul_le_mul_right _ hq
  rw [Nat.succ_mul] at this; omega
/-! a slot written anew -/
theorem ra_H_blk {rk dm am : Nat → Int32} {t : Nat} {b : ra_A} {gd ga : Nat → Int32} (hd : ∀ i, i < b.1 → gd i = nI (b.2.1 i)) (ha : ∀ i, i < ra_cnt b → ga i = b.2.2 i) :
    ra_H (upd rk t (nI b.1)) (ra_blk dm (t * 3) b.1 gd) (ra_blk am (t * 32) (ra_cnt b) ga) t b :=
  ⟨pk_us, fun i hi => (ra_blk_in hi).trans (hd i hi), fun i hi => (ra_blk_in hi).trans (ha i hi)⟩
theorem ra_S_blk {rk dm am : Nat → Int32} {t j n m : Nat} {z : Int32} {gd ga : Nat → Int32} (hn : n ≤ 3) (hm : m ≤ 32) (h : j ≠ t) :
    ra_S rk dm am (upd rk t z) (ra_blk dm (t * 3) n gd) (ra_blk am (t * 32) m ga) j :=
  ⟨pk_un h, fun i hi => ra_blk_out (by omega), fun i hi => ra_blk_out (by omega)⟩
/-! the LIMIT rule -/
def ra_lim (c : Nat) (d : Nat → Nat) (r : Nat) : Bool := ra_any (fun i => decide (c < d i)) r || decide (c < ra_prod d 0 r)
theorem ra_lim_le {c : Nat} {d : Nat → Nat} {r : Nat} (h : ∀ i, i < r → d i ≤ c) : ra_lim c d r = decide (c < ra_prod d 0 r) := by
  unfold ra_lim
  rw [ra_any_f r (fun i hi => decide_eq_false (by have := h i hi; omega)), Bool.false_or]
theorem ra_any_congr {p q : Nat → Bool} : ∀ n, (∀ i, i < n → p i = q i) → ra_any p n = ra_any q n := by
  intro n
  induction n with
  | zero => intro _; rfl
  | succ n ih => intro h; rw [ra_any, ra_any, ih (fun i hi => h i (by omega)), h n (by omega)]
theorem ra_lim_congr {c : Nat} {d d' : Nat → Nat} {r : Nat} (h : ∀ i, i < r → d i = d' i) : ra_lim c d r = ra_lim c d' r := by
  unfold ra_lim
  rw [ra_prod_congr (d' := d') (f' := 0) r (fun i hi => by rw [Nat.zero_add]; exact h i hi)]
  rw [ra_any_congr r (fun i hi => by rw [h i hi])]
/-! A, read step by step -/
section
variable {c : Nat} {fl : Int32} {E : ra_A → ra_A → Int32} {R : ra_A → ra_A → ra_A} {x y : ra_A} {fx fy : Nat}
theorem ra_AE_d (h : ra_dis x y (if fx < fy then fx else fy) = true) : ra_AE c fl E R x y fx fy = -1 := by
  unfold ra_AE; rw [if_pos h]
theorem ra_AE_0 (h : ra_dis x y (if fx < fy then fx else fy) = false) (p : ra_pos x y fx fy = 0) :
    ra_AE c fl E R x y fx fy = if 3 < ra_fr fx fy + (ra_S0 c fl E R x y fx fy).1 then -4 else 0 := by
  unfold ra_AE; rw [h, if_neg Bool.false_ne_true, if_pos p]
theorem ra_AE_e (h : ra_dis x y (if fx < fy then fx else fy) = false) {q : Nat} (hq : q < ra_pos x y fx fy)
    (hz : ∀ i, i < q → E (ra_cx x y fx fy i) (ra_cy x y fx fy i) = 0) (he : E (ra_cx x y fx fy q) (ra_cy x y fx fy q) ≠ 0) :
    ra_AE c fl E R x y fx fy = E (ra_cx x y fx fy q) (ra_cy x y fx fy q) := by
  have e := ra_first_s (f := fun q => E (ra_cx x y fx fy q) (ra_cy x y fx fy q)) (ra_first_0 q hz) he _ hq
  unfold ra_AE
  rw [h, if_neg Bool.false_ne_true, if_neg (by omega), e, if_pos he]
theorem ra_AE_l (h : ra_dis x y (if fx < fy then fx else fy) = false) (p : 0 < ra_pos x y fx fy)
    (hz : ∀ i, i < ra_pos x y fx fy → E (ra_cx x y fx fy i) (ra_cy x y fx fy i) = 0) :
    ra_AE c fl E R x y fx fy = if 3 < ra_fr fx fy + ra_K R x y fx fy (ra_pos x y fx fy) ∨
    c < ra_pos x y fx fy * (ra_w R x y fx fy (ra_pos x y fx fy) 0 * ra_w R x y fx fy (ra_pos x y fx fy) 1 * ra_w R x y fx fy (ra_pos x y fx fy) 2) then -4 else 0 := by
  have e := ra_first_0 (f := fun q => E (ra_cx x y fx fy q) (ra_cy x y fx fy q)) _ hz
  unfold ra_AE
  rw [h, if_neg Bool.false_ne_true, if_neg (by omega), e, if_neg (fun z => z rfl)]
theorem ra_z0 : (0 : Int32) ≠ 0 → (0 : Int32) < 0 := fun z => absurd rfl z
theorem ra_ite_n {p : Prop} [Decidable p] {a b : Int32} (ha : a ≠ 0 → a < 0) (hb : b ≠ 0 → b < 0) : (if p then a else b) ≠ 0 → (if p then a else b) < 0 := by
  by_cases h : p
  · rw [if_pos h]; exact ha
  · rw [if_neg h]; exact hb
theorem ra_first_n {f : Nat → Int32} (h : ∀ q, f q ≠ 0 → f q < 0) : ∀ n, ra_first f n ≠ 0 → ra_first f n < 0 := by
  intro n
  induction n with
  | zero => intro z; exact absurd rfl z
  | succ n ih =>
    rw [ra_first]
    by_cases e : ra_first f n = 0
    · rw [if_pos e]; exact h n
    · rw [if_neg e]; exact ih
theorem ra_AE_n (h : ∀ x y, E x y ≠ 0 → E x y < 0) : ra_AE c fl E R x y fx fy ≠ 0 → ra_AE c fl E R x y fx fy < 0 := by
  unfold ra_AE
  exact ra_ite_n (fun _ => by decide) (ra_ite_n (ra_ite_n (fun _ => by decide) ra_z0) (ra_ite_n (ra_first_n (fun q => h _ _) _) (ra_ite_n (fun _ => by decide) ra_z0)))
end
theorem ra_PE_n {c v : Nat} {x y : ra_A} : ra_PE c v x y ≠ 0 → ra_PE c v x y < 0 := by
  unfold ra_PE
  exact ra_ite_n (ra_ite_n (fun _ => by decide) (ra_ite_n (fun _ => by decide) ra_z0)) (ra_ite_n (ra_ite_n (fun _ => by decide) ra_z0)
    (ra_ite_n (ra_ite_n (fun _ => by decide) (ra_ite_n (fun _ => by decide) ra_z0)) (ra_ite_n (ra_ite_n (fun _ => by decide) ra_z0) (ra_ite_n (ra_ite_n (fun _ => by decide) ra_z0) ra_z0))))
theorem ra_BE_n {c v : Nat} {fl : Int32} {x y : ra_A} : ra_BE c fl v x y ≠ 0 → ra_BE c fl v x y < 0 := ra_AE_n (fun _ _ => ra_PE_n)
theorem ra_OE_n {c v : Nat} {fl : Int32} {x y : ra_A} {l r : Int32} : ra_OE c fl v x y l r ≠ 0 → ra_OE c fl v x y l r < 0 := ra_AE_n (fun _ _ => ra_BE_n)
/-- the effective rank, as both sides reckon it -/
theorem ra_eff_neg {v : Int32} {a : Nat} (ha : a ≤ 3) (h : v < 0) : (nI a + v).toInt = (a : Int) + v.toInt := by
  have h0 : (0 : Int32).toInt = 0 := rfl
  rw [Int32.lt_iff_toInt_lt, h0] at h
  have h1 := Int32.le_toInt v
  rw [Int32.toInt_add, nI_toInt (by omega)]
  exact Int.bmod_eq_of_le (by omega) (by omega)
theorem ra_eff_p {v : Int32} {a : Nat} (ha : a ≤ 3) (h : v < 0) (g : 0 < nI a + v) : nI a + v = nI (ra_eff v a) := by
  have e := ra_eff_neg ha h
  have h0 : (0 : Int32).toInt = 0 := rfl
  rw [Int32.lt_iff_toInt_lt, h0, e] at g
  unfold ra_eff
  rw [if_pos h]
  apply Int32.toInt_inj.mp
  have h' := h
  rw [Int32.lt_iff_toInt_lt, h0] at h'
  rw [e, nI_toInt (by omega)]
  omega
theorem ra_eff_z {v : Int32} {a : Nat} (ha : a ≤ 3) (h : v < 0) (g : ¬ 0 < nI a + v) : ra_eff v a = 0 := by
  have e := ra_eff_neg ha h
  have h0 : (0 : Int32).toInt = 0 := rfl
  rw [Int32.lt_iff_toInt_lt, h0, e] at g
  unfold ra_eff
  rw [if_pos h]
  omega
theorem ra_eff_l {v : Int32} {a : Nat} (h : ¬ v < 0) (g : v < nI a) : v = nI (ra_eff v a) := by
  unfold ra_eff
  rw [if_neg h, if_pos g]
  obtain ⟨j, hj, rfl⟩ := nI_of h
  rw [nI_clamp hj]
theorem ra_eff_h {v : Int32} {a : Nat} (h : ¬ v < 0) (g : ¬ v < nI a) : ra_eff v a = a := by
  unfold ra_eff
  rw [if_neg h, if_neg g]
