/-! from what a side has written to what the picture says -/
theorem ra_lim_g {c fr K : Nat} {F w : Nat → Nat} (hF : ∀ i, i < fr → F i ≤ c) (hw : ∀ j, j < 3 → w j ≤ c) (hK : K ≤ 3) (h1 : ∀ j, j < 3 - K → w j = 1) :
    ra_lim c (fun i => if i < fr then F i else w (i - fr + (3 - K))) (fr + K) = decide (c < ra_prod F 0 fr * (w 0 * w 1 * w 2)) := by
  have h : ∀ i, i < fr + K → (fun i => if i < fr then F i else w (i - fr + (3 - K))) i ≤ c := fun i hi => by
    show (if i < fr then F i else w (i - fr + (3 - K))) ≤ c
    by_cases e : i < fr
    · rw [if_pos e]; exact hF i e
    · rw [if_neg e]; exact hw _ (by omega)
  rw [ra_lim_le h, ra_glue F (fun i => w (i + (3 - K))) fr K, ra_w3 hK h1]
theorem ra_lim_0 {c fr K : Nat} {F G : Nat → Nat} (hF : ∀ i, i < fr → F i ≤ c) (hG : ∀ i, i < K → G i ≤ c) (hp : ra_prod F 0 fr = 0) :
    ra_lim c (fun i => if i < fr then F i else G (i - fr)) (fr + K) = false := by
  have h : ∀ i, i < fr + K → (fun i => if i < fr then F i else G (i - fr)) i ≤ c := fun i hi => by
    show (if i < fr then F i else G (i - fr)) ≤ c
    by_cases e : i < fr
    · rw [if_pos e]; exact hF i e
    · rw [if_neg e]; exact hG _ (by omega)
  rw [ra_lim_le h, ra_glue F G fr K, hp, Nat.zero_mul]
  exact decide_eq_false (by omega)
section
variable {c : Nat} {fl : Int32} {E : ra_A → ra_A → Int32} {R : ra_A → ra_A → ra_A} {x y : ra_A} {fx fy : Nat} {rk dm am : Nat → Int32} {t : Nat}
theorem ra_AA_n (p : ra_pos x y fx fy ≠ 0) : ra_AA c fl E R x y fx fy =
    (ra_fr fx fy + ra_K R x y fx fy (ra_pos x y fx fy),
     fun i => if i < ra_fr fx fy then ra_F x y fx fy i else ra_w R x y fx fy (ra_pos x y fx fy) (i - ra_fr fx fy + (3 - ra_K R x y fx fy (ra_pos x y fx fy))),
     fun n => ra_pl fl (ra_w R x y fx fy (ra_pos x y fx fy) 1) (ra_w R x y fx fy (ra_pos x y fx fy) 2)
       (R (ra_cx x y fx fy (n / (ra_w R x y fx fy (ra_pos x y fx fy) 0 * ra_w R x y fx fy (ra_pos x y fx fy) 1 * ra_w R x y fx fy (ra_pos x y fx fy) 2)))
          (ra_cy x y fx fy (n / (ra_w R x y fx fy (ra_pos x y fx fy) 0 * ra_w R x y fx fy (ra_pos x y fx fy) 1 * ra_w R x y fx fy (ra_pos x y fx fy) 2))))
       (n % (ra_w R x y fx fy (ra_pos x y fx fy) 0 * ra_w R x y fx fy (ra_pos x y fx fy) 1 * ra_w R x y fx fy (ra_pos x y fx fy) 2))) := by
  unfold ra_AA; rw [if_neg p]
theorem ra_AA_0 (p : ra_pos x y fx fy = 0) : ra_AA c fl E R x y fx fy =
    (ra_fr fx fy + (ra_S0 c fl E R x y fx fy).1, fun i => if i < ra_fr fx fy then ra_F x y fx fy i else (ra_S0 c fl E R x y fx fy).2.1 (i - ra_fr fx fy), fun _ => 0) := by
  unfold ra_AA; rw [if_pos p]
theorem ra_H_AA {val : Nat → Nat → Int32} {w : Nat → Nat} {P K M : Nat} (p : 0 < ra_pos x y fx fy) (eP : P = ra_pos x y fx fy) (eK : K = ra_K R x y fx fy P) (ew : w = ra_w R x y fx fy P)
    (eM : M = w 0 * w 1 * w 2) (ev : val = fun q i => ra_pl fl (w 1) (w 2) (R (ra_cx x y fx fy q) (ra_cy x y fx fy q)) i)
    (k3 : K ≤ 3) (hr : rk t = nI (ra_fr fx fy + K))
    (hd : ∀ i, i < ra_fr fx fy + K → dm (t * 3 + i) = nI (if i < ra_fr fx fy then ra_F x y fx fy i else w (i - ra_fr fx fy + (3 - K))))
    (ha : ∀ n, n < P * M → am (t * 32 + n) = val (n / M) (n % M)) : ra_H rk dm am t (ra_AA c fl E R x y fx fy) := by
  subst ev eM ew eK eP
  rw [ra_AA_n (Nat.ne_of_gt p)]
  refine ⟨hr, hd, fun i hi => ha i ?_⟩
  have e := ra_glue (ra_F x y fx fy) (fun i => ra_w R x y fx fy (ra_pos x y fx fy) (i + (3 - ra_K R x y fx fy (ra_pos x y fx fy)))) (ra_fr fx fy) (ra_K R x y fx fy (ra_pos x y fx fy))
  rw [ra_w3 k3 (ra_w_1 p)] at e
  exact Nat.lt_of_lt_of_le hi (Nat.le_of_eq e)
theorem ra_H_A0 {K : Nat} {G : Nat → Nat} (p : ra_pos x y fx fy = 0) (eK : K = (ra_S0 c fl E R x y fx fy).1) (eG : ∀ i, i < K → G i = (ra_S0 c fl E R x y fx fy).2.1 i)
    (hr : rk t = nI (ra_fr fx fy + K)) (hd : ∀ i, i < ra_fr fx fy + K → dm (t * 3 + i) = nI (if i < ra_fr fx fy then ra_F x y fx fy i else G (i - ra_fr fx fy))) :
    ra_H rk dm am t (ra_AA c fl E R x y fx fy) := by
  subst eK
  rw [ra_AA_0 p]
  refine ⟨hr, fun i hi => (hd i hi).trans ?_, fun i hi => ?_⟩
  · show nI _ = nI (if i < ra_fr fx fy then ra_F x y fx fy i else (ra_S0 c fl E R x y fx fy).2.1 (i - ra_fr fx fy))
    by_cases e : i < ra_fr fx fy
    · rw [if_pos e, if_pos e]
    · rw [if_neg e, if_neg e, eG _ (by have : i < ra_fr fx fy + _ := hi; omega)]
  · exfalso
    have e := ra_glue (ra_F x y fx fy) (ra_S0 c fl E R x y fx fy).2.1 (ra_fr fx fy) (ra_S0 c fl E R x y fx fy).1
    have hi' : i < ra_prod (ra_F x y fx fy) 0 (ra_fr fx fy) * ra_prod (ra_S0 c fl E R x y fx fy).2.1 0 (ra_S0 c fl E R x y fx fy).1 := Nat.lt_of_lt_of_le hi (Nat.le_of_eq e)
    have p' : ra_prod (ra_F x y fx fy) 0 (ra_fr fx fy) = 0 := p
    rw [p', Nat.zero_mul] at hi'
    omega
end
theorem ra_At_s {am am' : Nat → Int32} {b M q : Nat} {val : Nat → Nat → Int32} (h : ∀ n, n < q * M → am (b + n) = val (n / M) (n % M))
    (hk : ∀ n, n < q * M → am' (b + n) = am (b + n)) (hn : ∀ i, i < M → am' (b + (q * M + i)) = val q i) : ∀ n, n < (q + 1) * M → am' (b + n) = val (n / M) (n % M) := fun n h9 => by
  rcases ra_step h9 with z | ⟨z1, z2⟩
  · rw [hk n z, h n z]
  · obtain ⟨e1, e2⟩ := ra_divM z1 z2
    have := hn (n - q * M) (by omega)
    rw [show q * M + (n - q * M) = n by omega] at this
    rw [this, e1, e2]
/-- the positions are few -/
theorem ra_pos_le {c : Nat} {x y : ra_A} {fx fy : Nat} (hc : c ≤ 32) (wx : ra_W c x) (wy : ra_W c y) (hx : fx ≤ x.1) (hy : fy ≤ y.1) : ra_pos x y fx fy ≤ 32768 := by
  have h3 := ra_fr_3 wx wy hx hy
  refine Nat.le_trans (ra_prod_le (b := 32) _ (fun i hi => ?_)) (ra_p32 h3)
  rw [Nat.zero_add]
  exact Nat.le_trans (ra_F_le wx wy hx hy i hi) hc
theorem ra_size_le {c : Nat} {a : ra_A} {f : Nat} (hc : c ≤ 32) (w : ra_W c a) : ra_size a f ≤ 32768 := by
  have h3 : a.1 - f ≤ 3 := Nat.le_trans (Nat.sub_le _ _) w.1
  refine Nat.le_trans (ra_prod_le (b := 32) _ (fun i hi => ?_)) (ra_p32 h3)
  exact Nat.le_trans (w.2.1 (f + i) (by omega)) hc
theorem ra_S_3 {rk dm am rk' dm' am' : Nat → Int32} {s : Nat} (h : ra_S rk dm am rk' dm' am' s) {r : Nat} {d : Nat → Nat} (hr : r ≤ 3) (hd : ∀ i, i < r → dm (s * 3 + i) = nI (d i)) : ∀ i, i < r → dm' (s * 3 + i) = nI (d i) :=
  fun i hi => (h.2.1 i (by omega)).trans (hd i hi)
