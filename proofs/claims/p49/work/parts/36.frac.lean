/-! ===== fractions in lowest terms, on both sides ===== -/
theorem lgc_N {a b : Nat} (ha : a < 2 ^ 63) (hb : b < 2 ^ 63) : (0 < lg_cmp (lN a) (lN b) ↔ b < a) ∧ (lg_cmp (lN a) (lN b) ≤ 0 ↔ a ≤ b) ∧ (lg_cmp (lN a) (lN b) = 0 ↔ a = b) := by
  have e1 : 0 < lg_cmp (lN a) (lN b) ↔ b < a := by
    rw [lgc_gt, pk_lT ha, pk_lT hb]; omega
  refine ⟨e1, ?_, ?_⟩
  · rw [← Int32.not_lt, e1]; omega
  · unfold lg_cmp
    by_cases h1 : lN a > lN b
    · rw [if_pos h1]
      have := (pk_lLT hb ha).mp h1
      constructor
      · intro h; exact absurd h (by decide)
      · intro h; omega
    · rw [if_neg h1]
      by_cases h2 : lN a = lN b
      · rw [if_pos h2]
        exact ⟨fun _ => (pk_lEQ ha hb).mp h2, fun _ => rfl⟩
      · rw [if_neg h2]
        exact ⟨fun h => absurd h (by decide), fun h => absurd (by rw [h]) h2⟩
theorem mod_half {a b : Nat} (h : b ≤ a) (hb : 0 < b) : 2 * (a % b) ≤ a := by
  have h1 := Nat.mod_lt a hb
  have h2 := Nat.mod_add_div a b
  have h3 : 1 ≤ a / b := (Nat.one_le_div_iff hb).mpr h
  have h4 : b * 1 ≤ b * (a / b) := Nat.mul_le_mul_left b h3
  omega
/-- Euclid's loop, as it stands behind i steps -/
def euc (M i a b : Nat) : Prop := i = 0 ∨ (b ≤ a ∧ a * b * 2 ^ (i - 1) ≤ M)
theorem euc_s {M i a b : Nat} (hM : a * b ≤ M) (h : euc M i a b) (hb : 0 < b) : euc M (i + 1) b (a % b) ∧ b * (a % b) ≤ M := by
  have h1 := Nat.mod_lt a hb
  rcases h with rfl | ⟨h2, h3⟩
  · have h5 : b * (a % b) ≤ M := by
      refine Nat.le_trans ?_ hM
      rw [Nat.mul_comm a b]
      exact Nat.mul_le_mul_left b (Nat.mod_le a b)
    refine ⟨Or.inr ⟨by omega, ?_⟩, h5⟩
    rw [Nat.zero_add, Nat.sub_self, Nat.pow_zero, Nat.mul_one]
    exact h5
  · have h4 := mod_half h2 hb
    have h5 : b * (a % b) * 2 ≤ a * b := by
      rw [Nat.mul_assoc, Nat.mul_comm a b]
      exact Nat.mul_le_mul_left b (by omega)
    refine ⟨Or.inr ⟨by omega, ?_⟩, by omega⟩
    by_cases hi : i = 0
    · subst hi
      show b * (a % b) * 2 ^ 0 ≤ M
      omega
    · have e : 2 ^ (i + 1 - 1) = 2 * 2 ^ (i - 1) := by
        rw [show i + 1 - 1 = (i - 1) + 1 by omega, Nat.pow_succ, Nat.mul_comm]
      rw [e, ← Nat.mul_assoc]
      exact Nat.le_trans (Nat.mul_le_mul_right _ h5) h3
theorem euc_end {M i a b : Nat} (hM : M < 2 ^ 128) (h : euc M i a b) (hi : 150 ≤ i) : b = 0 := by
  rcases h with rfl | ⟨h2, h3⟩
  · omega
  · by_cases hb : b = 0
    · exact hb
    · exfalso
      have h4 : 1 ≤ a * b := Nat.mul_pos (by omega) (by omega)
      have h5 : 1 * 2 ^ (i - 1) ≤ a * b * 2 ^ (i - 1) := Nat.mul_le_mul_right _ h4
      have h6 : 2 ^ 128 ≤ 2 ^ (i - 1) := Nat.pow_le_pow_right (by decide) (by omega)
      omega
theorem gcd_s (a b : Nat) : Nat.gcd b (a % b) = Nat.gcd a b := by
  rw [Nat.gcd_comm a b, Nat.gcd_rec b a, Nat.gcd_comm]
theorem prod_lt {a b : Nat} (ha : a < 2 ^ 63) (hb : b < 2 ^ 63) : a * b < 2 ^ 128 := by
  have h := Nat.mul_le_mul (Nat.le_of_lt ha) (Nat.le_of_lt hb)
  omega
theorem common7_e {a b : Nat} (ha : a < 2 ^ 63) (hb : b < 2 ^ 63) : f_X4_commonDivisor (lN a) (lN b) = some (lN (Nat.gcd a b)) := by
  unfold f_X4_commonDivisor f_X4_commonDivisor_L9
  refine lp_go2 _ (fun i (s : Int64 × Int64 × Int32) => s.2.2 = nI i ∧ ∃ x y, s.1 = lN x ∧ s.2.1 = lN y ∧ x < 2 ^ 63 ∧ y < 2 ^ 63 ∧ Nat.gcd x y = Nat.gcd a b ∧ x * y ≤ a * b ∧ euc (a * b) i x y) 150 (fun o => o = some (lN (Nat.gcd a b))) ?_ _ ⟨rfl, a, b, rfl, rfl, ha, hb, rfl, Nat.le_refl _, Or.inl rfl⟩ (FU_gt (by decide))
  rintro i ⟨s1, s2, s3⟩ hi ⟨e3, x, y, e1, e2, hx, hy, hg, hp, he⟩ rc
  dsimp only at e1 e2 e3 ⊢
  subst e1 e2 e3
  unfold f_X4_commonDivisor_L9_b
  have hc : lg_cmp (lN y) (0 : Int64) = 0 ↔ y = 0 := (lgc_N (b := 0) hy (by decide)).2.2
  rw [br_f1 (show ¬ (200 : Int32) ≤ nI i from nI_ge (b := 200) (by omega) (by decide))]
  by_cases h0 : y = 0
  · left
    rw [br_t1 (hc.mpr h0), ← hg, h0, Nat.gcd_zero_right]
  · right
    have hy0 : 0 < y := by omega
    have hi2 : i < 150 := by
      rcases Nat.lt_or_ge i 150 with q | q
      · omega
      · exact absurd (euc_end (prod_lt ha hb) he q) h0
    have hz : ¬ lN y = (0 : Int64) := fun q => h0 ((pk_lEQ (b := 0) hy (by decide)).mp q)
    rw [br_f1 (fun q => h0 (hc.mp q)), gd_t hz, nm_q, pk_lRem hx hy0 hy]
    obtain ⟨g1, g2⟩ := euc_s hp he hy0
    exact ⟨hi2, _, ⟨nI_1 i, y, x % y, rfl, rfl, hy, Nat.lt_of_le_of_lt (Nat.mod_le x y) hx, (gcd_s x y).trans hg, g2, g1⟩, rfl⟩
/-- a fraction times another one, in lowest terms -/
def mulF (r x : Nat × Nat) : Nat × Nat := (r.1 * x.1 / Nat.gcd (r.1 * x.1) (r.2 * x.2), r.2 * x.2 / Nat.gcd (r.1 * x.1) (r.2 * x.2))
def bigF (r : Nat × Nat) : Prop := 100000000000 < r.1 ∨ 100000000000 < r.2
def redF (r : Nat × Nat) : Prop := Nat.gcd r.1 r.2 = 1 ∧ 1 ≤ r.2
theorem mulF_of {u v K A B : Nat} (hc : Nat.gcd u v = 1) (hK : 0 < K) (hA : u * K = A) (hB : v * K = B) : (A / Nat.gcd A B, B / Nat.gcd A B) = (u, v) := by
  have h : Nat.gcd A B = K := by rw [← hA, ← hB, Nat.gcd_mul_right, hc, Nat.one_mul]
  rw [h, ← hA, ← hB, Nat.mul_div_cancel _ hK, Nat.mul_div_cancel _ hK]
theorem mulF_le {r x : Nat × Nat} : (mulF r x).1 ≤ r.1 * x.1 ∧ (mulF r x).2 ≤ r.2 * x.2 := ⟨Nat.div_le_self _ _, Nat.div_le_self _ _⟩
theorem mulF_red {r x : Nat × Nat} (h1 : 1 ≤ r.2) (h2 : 1 ≤ x.2) : redF (mulF r x) := by
  have hp : 0 < r.2 * x.2 := Nat.mul_pos h1 h2
  have hg : 0 < Nat.gcd (r.1 * x.1) (r.2 * x.2) := Nat.gcd_pos_of_pos_right _ hp
  refine ⟨Nat.coprime_div_gcd_div_gcd hg, ?_⟩
  show 0 < r.2 * x.2 / Nat.gcd (r.1 * x.1) (r.2 * x.2)
  exact Nat.div_pos (Nat.le_of_dvd hp (Nat.gcd_dvd_right _ _)) hg
theorem mulF_one {r : Nat × Nat} (h : redF r) : mulF r (1, 1) = r := by
  unfold mulF
  dsimp only
  rw [Nat.mul_one, Nat.mul_one, h.1, Nat.div_one, Nat.div_one]
theorem mulF_sc {r : Nat × Nat} {x y c : Nat} (hc : 0 < c) : mulF r (c * x, c * y) = mulF r (x, y) := by
  unfold mulF
  dsimp only
  rw [show r.1 * (c * x) = c * (r.1 * x) from Nat.mul_left_comm _ _ _, show r.2 * (c * y) = c * (r.2 * y) from Nat.mul_left_comm _ _ _, Nat.gcd_mul_left, Nat.mul_div_mul_left _ _ hc, Nat.mul_div_mul_left _ _ hc]
theorem mulF_form {a b x y : Nat} (hab : Nat.gcd a b = 1) (hb : 1 ≤ b) (hy : 1 ≤ y) :
    mulF (a, b) (x, y) = (a / Nat.gcd a (y / Nat.gcd x y) * (x / Nat.gcd x y / Nat.gcd (x / Nat.gcd x y) b), b / Nat.gcd (x / Nat.gcd x y) b * (y / Nat.gcd x y / Nat.gcd a (y / Nat.gcd x y))) := by
  have hs : 0 < Nat.gcd x y := Nat.gcd_pos_of_pos_right _ hy
  have hxy : Nat.gcd (x / Nat.gcd x y) (y / Nat.gcd x y) = 1 := Nat.coprime_div_gcd_div_gcd hs
  have hx0 : x / Nat.gcd x y * Nat.gcd x y = x := Nat.div_mul_cancel (Nat.gcd_dvd_left x y)
  have hy0 : y / Nat.gcd x y * Nat.gcd x y = y := Nat.div_mul_cancel (Nat.gcd_dvd_right x y)
  have hy1 : 0 < y / Nat.gcd x y := Nat.div_pos (Nat.le_of_dvd hy (Nat.gcd_dvd_right x y)) hs
  generalize hX : x / Nat.gcd x y = X at *
  generalize hY : y / Nat.gcd x y = Y at *
  generalize Nat.gcd x y = s at *
  have hg : 0 < Nat.gcd a Y := Nat.gcd_pos_of_pos_right _ hy1
  have hh : 0 < Nat.gcd X b := Nat.gcd_pos_of_pos_right _ hb
  have c1 : Nat.gcd (a / Nat.gcd a Y) (Y / Nat.gcd a Y) = 1 := Nat.coprime_div_gcd_div_gcd hg
  have c2 : Nat.gcd (X / Nat.gcd X b) (b / Nat.gcd X b) = 1 := Nat.coprime_div_gcd_div_gcd hh
  have a0 : a / Nat.gcd a Y * Nat.gcd a Y = a := Nat.div_mul_cancel (Nat.gcd_dvd_left a Y)
  have y0 : Y / Nat.gcd a Y * Nat.gcd a Y = Y := Nat.div_mul_cancel (Nat.gcd_dvd_right a Y)
  have x0 : X / Nat.gcd X b * Nat.gcd X b = X := Nat.div_mul_cancel (Nat.gcd_dvd_left X b)
  have b0 : b / Nat.gcd X b * Nat.gcd X b = b := Nat.div_mul_cancel (Nat.gcd_dvd_right X b)
  have c3 : Nat.gcd (a / Nat.gcd a Y) (b / Nat.gcd X b) = 1 :=
    Nat.Coprime.coprime_div_left (Nat.Coprime.coprime_div_right hab (Nat.gcd_dvd_right X b)) (Nat.gcd_dvd_left a Y)
  have c4 : Nat.gcd (X / Nat.gcd X b) (Y / Nat.gcd a Y) = 1 :=
    Nat.Coprime.coprime_div_left (Nat.Coprime.coprime_div_right hxy (Nat.gcd_dvd_right a Y)) (Nat.gcd_dvd_left X b)
  generalize a / Nat.gcd a Y = A at *
  generalize Y / Nat.gcd a Y = Y2 at *
  generalize X / Nat.gcd X b = X2 at *
  generalize b / Nat.gcd X b = B at *
  generalize Nat.gcd a Y = g at *
  generalize Nat.gcd X b = h at *
  have hcop : Nat.gcd (A * X2) (B * Y2) = 1 := Nat.Coprime.mul_left (Nat.Coprime.mul_right c3 c1) (Nat.Coprime.mul_right c2 c4)
  refine mulF_of hcop (K := g * h * s) (Nat.mul_pos (Nat.mul_pos hg hh) hs) ?_ ?_
  · show A * X2 * (g * h * s) = a * x
    rw [← hx0, ← x0, ← a0]
    simp only [Nat.mul_assoc, Nat.mul_comm, Nat.mul_left_comm]
  · show B * Y2 * (g * h * s) = b * y
    rw [← hy0, ← y0, ← b0]
    simp only [Nat.mul_assoc, Nat.mul_comm, Nat.mul_left_comm]
theorem multiply7_e {p q x y : Nat} (hq1 : 1 ≤ q) (hp : p < 2 ^ 54) (hq : q < 2 ^ 54) (hx : x ≤ 90) (hy1 : 1 ≤ y) (hy : y ≤ 90) {X Y : Int32} (hX : X = nI x) (hY : Y = nI y) :
    f_X4_multiply X Y (lN p) (lN q) = some (kI (¬ bigF (mulF (p, q) (x, y))), lN (mulF (p, q) (x, y)).1, lN (mulF (p, q) (x, y)).2) := by
  subst hX hY
  have hpx : p * x ≤ 2 ^ 54 * 90 := Nat.mul_le_mul (Nat.le_of_lt hp) hx
  have hqy : q * y ≤ 2 ^ 54 * 90 := Nat.mul_le_mul (Nat.le_of_lt hq) hy
  have hqy1 : 0 < q * y := Nat.mul_pos hq1 hy1
  have hle := mulF_le (r := (p, q)) (x := (x, y))
  have b1 : (mulF (p, q) (x, y)).1 < 2 ^ 63 := by have : (mulF (p, q) (x, y)).1 ≤ p * x := hle.1; omega
  have b2 : (mulF (p, q) (x, y)).2 < 2 ^ 63 := by have : (mulF (p, q) (x, y)).2 ≤ q * y := hle.2; omega
  have hg : 0 < Nat.gcd (p * x) (q * y) := Nat.gcd_pos_of_pos_right _ hqy1
  have hg2 : Nat.gcd (p * x) (q * y) ≤ q * y := Nat.le_of_dvd hqy1 (Nat.gcd_dvd_right _ _)
  have hz : ¬ lN (Nat.gcd (p * x) (q * y)) = (0 : Int64) := fun z => absurd ((pk_lEQ (b := 0) (by omega) (by decide)).mp z) (by omega)
  have hc : lg_cmp (lN (Nat.gcd (p * x) (q * y))) (0 : Int64) ≤ 0 ↔ Nat.gcd (p * x) (q * y) ≤ 0 := (lgc_N (b := 0) (by omega) (by decide)).2.1
  unfold f_X4_multiply
  rw [nI_l (by omega), nI_l (by omega), lN_mul, lN_mul, bd_t (common7_e (by omega) (by omega)), br_f1 (fun z => absurd (hc.mp z) (by omega)), gd_t hz, gd_t hz, pk_lDiv (by omega) hg (by omega), pk_lDiv (by omega) hg (by omega)]
  show f_X4_multiply_J60 (nI x) (nI y) (lN (mulF (p, q) (x, y)).1) (lN (mulF (p, q) (x, y)).2) = _
  generalize mulF (p, q) (x, y) = r at *
  unfold f_X4_multiply_J60
  have e1 : 0 < lg_cmp (lN r.1) (100000000000 : Int64) ↔ 100000000000 < r.1 := (lgc_N (b := 100000000000) b1 (by decide)).1
  have e2 : 0 < lg_cmp (lN r.2) (100000000000 : Int64) ↔ 100000000000 < r.2 := (lgc_N (b := 100000000000) b2 (by decide)).1
  by_cases q1 : 100000000000 < r.1
  · rw [br_t1 (e1.mpr q1), kI_f (fun z => z (Or.inl q1))]
  · rw [br_f1 (fun q => q1 (e1.mp q))]
    by_cases q2 : 100000000000 < r.2
    · rw [br_t1 (e2.mpr q2), kI_f (fun z => z (Or.inr q2))]
    · rw [br_f1 (fun q => q2 (e2.mp q)), kI_t (fun z => z.elim q1 q2)]
