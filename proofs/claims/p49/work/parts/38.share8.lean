/-! ===== which is greater; shares: the reference ===== -/
def cmpI (x y : Nat) : Int32 := if x = y then 0 else if y < x then 1 else -1
theorem cmpI_e {x y : Nat} (h : x = y) : cmpI x y = 0 := by unfold cmpI; exact if_pos h
theorem cmpI_g {x y : Nat} (h : y < x) : cmpI x y = 1 := by unfold cmpI; rw [if_neg (by omega), if_pos h]
theorem cmpI_l {x y : Nat} (h : x < y) : cmpI x y = -1 := by unfold cmpI; rw [if_neg (by omega), if_neg (by omega)]
theorem cmpI_add (t x y : Nat) : cmpI (t + x) (t + y) = cmpI x y := by
  rcases Nat.lt_trichotomy x y with h | h | h
  · rw [cmpI_l h, cmpI_l (by omega)]
  · rw [cmpI_e h, cmpI_e (by omega)]
  · rw [cmpI_g h, cmpI_g (by omega)]
theorem cmpI_neg (x y : Nat) : -(cmpI x y) = cmpI y x := by
  rcases Nat.lt_trichotomy x y with h | h | h
  · rw [cmpI_l h, cmpI_g h]; rfl
  · rw [cmpI_e h, cmpI_e h.symm]; rfl
  · rw [cmpI_g h, cmpI_l h]
theorem cmp_s {A B C D : Nat} (h : A / B = C / D) : cmpI (A * D) (C * B) = cmpI (D * (A % B)) (B * (C % D)) := by
  have h1 := Nat.div_add_mod A B
  have h2 := Nat.div_add_mod C D
  have e1 : A * D = B * (A / B) * D + D * (A % B) := by
    rw [Nat.mul_comm D (A % B), ← Nat.add_mul, h1]
  have e2 : C * B = B * (A / B) * D + B * (C % D) := by
    have : B * (A / B) * D = B * (D * (C / D)) := by rw [h, Nat.mul_assoc, Nat.mul_comm (C / D) D]
    rw [this, ← Nat.mul_add, h2, Nat.mul_comm]
  rw [e1, e2, cmpI_add]
theorem div_lt_mul {A B C D : Nat} (hB : 0 < B) (hD : 0 < D) (h : A / B < C / D) : A * D < C * B := by
  have h1 : A < B * (A / B + 1) := by
    have := Nat.div_add_mod A B
    have := Nat.mod_lt A hB
    rw [Nat.mul_add]
    omega
  have h2 : B * (A / B + 1) ≤ B * (C / D) := Nat.mul_le_mul_left B h
  have h3 : A * D < B * (C / D) * D := Nat.mul_lt_mul_of_pos_right (by omega) hD
  have h4 : B * (C / D) * D ≤ C * B := by
    rw [Nat.mul_assoc, Nat.mul_comm C B]
    exact Nat.mul_le_mul_left B (Nat.div_mul_le_self C D)
  omega
/-- how the loop's sign and rests tell the answer -/
def ordR (R s : Int32) (A B C D : Nat) : Prop := (s = 1 ∧ R = cmpI (A * D) (C * B)) ∨ (s = -1 ∧ R = cmpI (C * B) (A * D))
theorem ordR_s {R s : Int32} {A B C D : Nat} (h : ordR R s A B C D) (hq : A / B = C / D) : ordR R (-s) B (A % B) D (C % D) := by
  have e := cmp_s hq
  rcases h with ⟨rfl, h⟩ | ⟨rfl, h⟩
  · exact Or.inr ⟨rfl, h.trans e⟩
  · refine Or.inl ⟨rfl, ?_⟩
    rw [h, ← cmpI_neg, e, cmpI_neg]
theorem ordR_gt {R s : Int32} {A B C D : Nat} (h : ordR R s A B C D) (hq : C * B < A * D) : R = s := by
  rcases h with ⟨rfl, h⟩ | ⟨rfl, h⟩
  · rw [h, cmpI_g hq]
  · rw [h, cmpI_l hq]
theorem ordR_lt {R s : Int32} {A B C D : Nat} (h : ordR R s A B C D) (hq : A * D < C * B) : R = -s := by
  rcases h with ⟨rfl, h⟩ | ⟨rfl, h⟩
  · rw [h, cmpI_l hq]
  · rw [h, cmpI_g hq]; rfl
theorem ordR_eq {R s : Int32} {A B C D : Nat} (h : ordR R s A B C D) (hq : A * D = C * B) : R = 0 := by
  rcases h with ⟨rfl, h⟩ | ⟨rfl, h⟩
  · rw [h, cmpI_e hq]
  · rw [h, cmpI_e hq.symm]
/-- the three numbers that a basin's kind makes of what comes -/
def lF (k : Nat) (c : Nat × Nat) : Nat × Nat := mulF c (lkF k)
def kF (k : Nat) (c : Nat × Nat) : Nat × Nat := mulF (lF k c) (kpF k)
def gF (k : Nat) (c : Nat × Nat) : Nat × Nat := mulF (lF k c) (goF k)
theorem lF_ok {k : Nat} {c : Nat × Nat} (hc : vF c) : redF (lF k c) ∧ (lF k c).1 < 2 ^ 54 ∧ (lF k c).2 < 2 ^ 54 := by
  obtain ⟨h1, h2, h3⟩ := lkF_ok k
  have h := mulF_le (r := c) (x := lkF k)
  have b1 := hc.2.1
  have b2 := hc.2.2
  have e1 : c.1 * (lkF k).1 ≤ 100000000000 * 90 := Nat.mul_le_mul b1 h1
  have e2 : c.2 * (lkF k).2 ≤ 100000000000 * 90 := Nat.mul_le_mul b2 h3
  have f1 : (lF k c).1 ≤ c.1 * (lkF k).1 := h.1
  have f2 : (lF k c).2 ≤ c.2 * (lkF k).2 := h.2
  exact ⟨mulF_red hc.1.2 h2, by omega, by omega⟩
