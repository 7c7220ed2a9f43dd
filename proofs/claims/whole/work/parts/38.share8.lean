/-! ===== which is greater; shares: the reference ===== -/
def cmpI (x y : Nat) : Int32 := if x = y then 0 else if y < x then 1 else -1
theorem cmpI_e {x y : Nat} (h : x = y) : cmpI x y = 0 := by unfold cmpI; exact if_pos h
theorem cmpI_g {x y : Nat} (h : y < x) : cmpI x y = 1 := by unfold cmpI; rw [if_neg (by omega), if_pos h]
theorem cmpI_l {x y : Nat} (h : x < y) : cmpI x y = -1 := by unfold cmpI; rw [if_neg (by omega), if_neg (by omega)]
theorem cmpI_add (t x y : Nat) : cmpI (t + x) (t + y) = cmpI x y := by
  rcases Nat.lt_trichotomy x y with h | h | h
  · rw [cmpI_l h, cmpI_l (by omega)]
  · rw [cmpI_e h, cmpI_e (by omega)]
  · rw [cmpI_g h, cmpI_g (by omega)]
theorem cmpI_neg (x y : Nat) : -(cmpI x y) = cmpI y x := by
  rcases Nat.lt_trichotomy x y with h | h | h
  · rw [cmpI_l h, cmpI_g h]; rfl
  · rw [cmpI_e h, cmpI_e h.symm]; rfl
  · rw [cmpI_g h, cmpI_l h]
theorem cmp_s {A B C D : Nat} (h : A / B = C / D) : cmpI (A * D) (C * B) = cmpI (D * (A % B)) (B * (C % D)) := by
  have h1 := Nat.div_add_mod A B
  have h2 := Nat.div_add_mod C D
  have e1 : A * D = B * (A / B) * D + D * (A % B) := by
    rw [Nat.mul_comm D (A % B), ← Nat.add_mul, h1]
  have e2 : C * B = B * (A / B) * D + B * (C % D) := by
    have : B * (A / B) * D = B * (D * (C / D)) := by rw [h, Nat.mul_assoc, Nat.mul_comm (C / D) D]
    rw [this, ← Nat.mul_add, h2, Nat.mul_comm]
  rw [e1, e2, cmpI_add]
theorem div_lt_mul {A B C D : Nat} (hB : 0 < B) (hD : 0 < D) (h : A / B < C / D) : A * D < C * B := by
  have h1 : A < B * (A / B + 1) := by
    have := Nat.div_add_mod A B
    have := Nat.mod_lt A hB
    rw [Nat.mul_add]
    omega
  have h2 : B * (A / B + 1) ≤ B * (C / D) := Nat.mul_le_mul_left B h
  have h3 : A * D < B * (C / D) * D := Nat.mul_lt_mul_of_pos_right (by omega) hD
  have h4 : B * (C / D) * D ≤ C * B := by
    rw [Nat.mul_assoc, Nat.mul_comm C B]
    exact Nat.mul_le_mul_left B (Nat.div_mul_le_self C D)
  omega
/-- how the loop's sign and rests tell the answer -/
def ordR (R s : Int32) (A B C D : Nat) : Prop := (s = 1 ∧ R = cmpI (A * D) (C * B)) ∨ (s = -1 ∧ R = cmpI (C * B) (A * D))
theorem ordR_s {R s : Int32} {A B C D : Nat} (h : ordR R s A B C D) (hq : A / B = C / D) : ordR R (-s) B (A % B) D (C % D) := by
  have e := cmp_s hq
  rcases h with ⟨rfl, h⟩ | ⟨rfl, h⟩
  · exact Or.inr ⟨rfl, h.trans e⟩
  · refine Or.inl ⟨rfl, ?_⟩
    rw [h, ← cmpI_neg, e, cmpI_neg]
theorem ordR_gt {R s : Int32} {A B C D : Nat} (h : ordR R s A B C D) (hq : C * B < A * D) : R = s := by
  rcases h with ⟨rfl, h⟩ | ⟨rfl, h⟩
  · rw [h, cmpI_g hq]
  · rw [h, cmpI_l hq]
theorem ordR_lt {R s : Int32} {A B C D : Nat} (h : ordR R s A B C D) (hq : A * D < C * B) : R = -s := by
  rcases h with ⟨rfl, h⟩ | ⟨rfl, h⟩
  · rw [h, cmpI_l hq]
  · rw [h, cmpI_g hq]; rfl
theorem ordR_eq {R s : Int32} {A B C D : Nat} (h : ordR R s A B C D) (hq : A * D = C * B) : R = 0 := by
  rcases h with ⟨rfl, h⟩ | ⟨rfl, h⟩
  · rw [h, cmpI_e hq]
  · rw [h, cmpI_e hq.symm]
theorem order7_e {i j : Nat} (hi : i < 10) (hj : j < 10) {kT kB : Nat → Int64} {p q : Nat × Nat} (hp1 : kT i = lN p.1) (hp2 : kB i = lN p.2) (hq1 : kT j = lN q.1) (hq2 : kB j = lN q.2) (vp : vF p) (vq : vF q) :
    f_X4_order (nI i) (nI j) kT kB = some (cmpI (p.1 * q.2) (q.1 * p.2)) := by
  have b1 := vp.2.1
  have b2 := vp.2.2
  have b3 := vq.2.1
  have b4 := vq.2.2
  have c1 := vp.1.2
  have c2 := vq.1.2
  have vi : vp_in (nI i) 10 := vp_in_nI hi (by decide)
  have vj : vp_in (nI j) 10 := vp_in_nI hj (by decide)
  unfold f_X4_order
  rw [gd_t vi, nm_q, gd_t vi, nm_q, gd_t vj, nm_q, gd_t vj, nm_q, nI_clamp (show i < 2 ^ 31 by omega), nI_clamp (show j < 2 ^ 31 by omega), hp1, hp2, hq1, hq2]
  unfold f_X4_order_L37
  refine lp_go2 _ (fun n (s : Int64 × Int64 × Int64 × Int64 × Int32 × Int32) => s.2.2.2.2.2 = nI n ∧ ∃ A B C D, s.1 = lN A ∧ s.2.1 = lN B ∧ s.2.2.1 = lN C ∧ s.2.2.2.1 = lN D ∧ A < 2 ^ 63 ∧ B < 2 ^ 63 ∧ C < 2 ^ 63 ∧ D < 2 ^ 63 ∧ (B = 0 → 1 ≤ A) ∧ (D = 0 → 1 ≤ C) ∧ ordR (cmpI (p.1 * q.2) (q.1 * p.2)) s.2.2.2.2.1 A B C D ∧ A * B ≤ p.1 * p.2 ∧ euc (p.1 * p.2) n A B) 150 (fun o => o = some (cmpI (p.1 * q.2) (q.1 * p.2))) ?_ _ ⟨rfl, p.1, p.2, q.1, q.2, rfl, rfl, rfl, rfl, by omega, by omega, by omega, by omega, fun h => absurd h (by omega), fun h => absurd h (by omega), Or.inl ⟨rfl, rfl⟩, Nat.le_refl _, Or.inl rfl⟩ (FU_gt (by decide))
  rintro n ⟨y3, y5, y7, y9, y11, y12⟩ hn ⟨a0, A, B, C, D, e1, e2, e3, e4, hA, hB, hC, hD, hBA, hDC, hR, hM, he⟩ rc
  dsimp only at a0 e1 e2 e3 e4 hR ⊢
  subst a0 e1 e2 e3 e4
  unfold f_X4_order_L37_b
  have hB0 : lg_cmp (lN B) (0 : Int64) ≤ 0 ↔ B ≤ 0 := (lgc_N (b := 0) hB (by decide)).2.1
  have hD0 : lg_cmp (lN D) (0 : Int64) ≤ 0 ↔ D ≤ 0 := (lgc_N (b := 0) hD (by decide)).2.1
  have hBz : lg_cmp (lN B) (0 : Int64) = 0 ↔ B = 0 := (lgc_N (b := 0) hB (by decide)).2.2
  have hBD : lg_cmp (lN B) (lN D) = 0 ↔ B = D := (lgc_N hB hD).2.2
  rw [br_f1 (show ¬ (200 : Int32) ≤ nI n from nI_ge (b := 200) (by omega) (by decide))]
  by_cases b0 : B = 0
  · left
    rw [br_t1 (hB0.mpr (by omega))]
    unfold f_X4_order_J133
    by_cases d0 : D = 0
    · rw [br_t1 (hBD.mpr (by omega)), ordR_eq hR (by rw [b0, d0]; rfl)]
    · have hAp := hBA b0
      have h1 : 0 < A * D := Nat.mul_pos (by omega) (by omega)
      rw [br_f1 (fun z => d0 ((hBD.mp z).symm.trans b0)), br_t1 (hBz.mpr b0), ordR_gt hR (by rw [b0, Nat.mul_zero]; exact h1)]
  rw [br_f1 (fun z => b0 (by have := hB0.mp z; omega))]
  by_cases d0 : D = 0
  · left
    have hCp := hDC d0
    have h1 : 0 < C * B := Nat.mul_pos (by omega) (by omega)
    rw [br_t1 (hD0.mpr (by omega))]
    unfold f_X4_order_J133
    rw [br_f1 (fun z => b0 ((hBD.mp z).trans d0)), br_f1 (fun z => b0 (hBz.mp z)), ordR_lt hR (by rw [d0, Nat.mul_zero]; exact h1)]
  rw [br_f1 (fun z => d0 (by have := hD0.mp z; omega))]
  have hBp : 0 < B := by omega
  have hDp : 0 < D := by omega
  have gB : ¬ lN B = (0 : Int64) := fun z => b0 ((pk_lEQ (b := 0) hB (by decide)).mp z)
  have gD : ¬ lN D = (0 : Int64) := fun z => d0 ((pk_lEQ (b := 0) hD (by decide)).mp z)
  have l1 : A / B < 2 ^ 63 := Nat.lt_of_le_of_lt (Nat.div_le_self _ _) hA
  have l2 : C / D < 2 ^ 63 := Nat.lt_of_le_of_lt (Nat.div_le_self _ _) hC
  have hq := lgc_N l1 l2
  rw [gd_t gB, gd_t gD, gd_t gB, pk_lDiv hA hBp hB, pk_lDiv hC hDp hD]
  by_cases heq : A / B = C / D
  · right
    rw [br_t1 (hq.2.2.mpr heq), nm_q, gd_t gD, nm_q, nm_q, ← pk_lDiv hA hBp hB, ← pk_lDiv hC hDp hD, pk_lRem hA hBp hB, pk_lRem hC hDp hD]
    obtain ⟨g1, g2⟩ := euc_s hM he hBp
    have hn2 : n < 150 := by
      rcases Nat.lt_or_ge n 150 with z | z
      · exact z
      · exact absurd (euc_end (prod_lt (show p.1 < 2 ^ 63 by omega) (show p.2 < 2 ^ 63 by omega)) he z) b0
    refine ⟨hn2, _, ?_, rfl⟩
    exact ⟨nI_1 n, B, A % B, D, C % D, rfl, rfl, rfl, rfl, hB, Nat.lt_of_le_of_lt (Nat.mod_le _ _) hA, hD, Nat.lt_of_le_of_lt (Nat.mod_le _ _) hC, fun _ => by omega, fun _ => by omega, ordR_s hR heq, g2, g1⟩
  · left
    rw [br_f1 (fun z => heq (hq.2.2.mp z))]
    unfold f_X4_order_J72
    rw [gd_t gB, gd_t gD, pk_lDiv hA hBp hB, pk_lDiv hC hDp hD]
    by_cases hlt : A / B ≤ C / D
    · rw [br_t1 (hq.2.1.mpr hlt), ordR_lt hR (div_lt_mul hBp hDp (by omega))]
    · rw [br_f1 (fun z => hlt (hq.2.1.mp z)), ordR_gt hR (div_lt_mul hDp hBp (by omega))]
theorem order8_e {p q : Nat × Nat} (vp : vF p) (vq : vF q) : f_X8_order (lN p.1) (lN p.2) (lN q.1) (lN q.2) = some (cmpI (p.1 * q.2) (q.1 * p.2)) := by
  have b1 := vp.2.1
  have b2 := vp.2.2
  have b3 := vq.2.1
  have b4 := vq.2.2
  have c1 := vp.1.2
  have c2 := vq.1.2
  unfold f_X8_order f_X8_order_L17
  refine lp_go2 _ (fun n (s : Int64 × Int64 × Int64 × Int64 × Int32) => ∃ A B C D, s.1 = lN A ∧ s.2.1 = lN B ∧ s.2.2.1 = lN C ∧ s.2.2.2.1 = lN D ∧ A < 2 ^ 63 ∧ B < 2 ^ 63 ∧ C < 2 ^ 63 ∧ D < 2 ^ 63 ∧ 0 < B ∧ 0 < D ∧ ordR (cmpI (p.1 * q.2) (q.1 * p.2)) s.2.2.2.2 A B C D ∧ A * B ≤ p.1 * p.2 ∧ euc (p.1 * p.2) n A B) 150 (fun o => o = some (cmpI (p.1 * q.2) (q.1 * p.2))) ?_ _ ⟨p.1, p.2, q.1, q.2, rfl, rfl, rfl, rfl, by omega, by omega, by omega, by omega, by omega, by omega, Or.inl ⟨rfl, rfl⟩, Nat.le_refl _, Or.inl rfl⟩ (FU_gt (by decide))
  rintro n ⟨y3, y5, y7, y9, y11⟩ hn ⟨A, B, C, D, e1, e2, e3, e4, hA, hB, hC, hD, hBp, hDp, hR, hM, he⟩ rc
  dsimp only at e1 e2 e3 e4 hR ⊢
  subst e1 e2 e3 e4
  unfold f_X8_order_L17_b
  have gB : ¬ lN B = (0 : Int64) := fun z => absurd ((pk_lEQ (b := 0) hB (by decide)).mp z) (by omega)
  have gD : ¬ lN D = (0 : Int64) := fun z => absurd ((pk_lEQ (b := 0) hD (by decide)).mp z) (by omega)
  have l1 : A / B < 2 ^ 63 := Nat.lt_of_le_of_lt (Nat.div_le_self _ _) hA
  have l2 : C / D < 2 ^ 63 := Nat.lt_of_le_of_lt (Nat.div_le_self _ _) hC
  have m1 : A % B < 2 ^ 63 := Nat.lt_of_le_of_lt (Nat.mod_le _ _) hA
  have m2 : C % D < 2 ^ 63 := Nat.lt_of_le_of_lt (Nat.mod_le _ _) hC
  have hq := lgc_N l1 l2
  have z1 : lg_cmp (lN (A % B)) (0 : Int64) = 0 ↔ A % B = 0 := (lgc_N (b := 0) m1 (by decide)).2.2
  have z2 : lg_cmp (lN (C % D)) (0 : Int64) = 0 ↔ C % D = 0 := (lgc_N (b := 0) m2 (by decide)).2.2
  rw [gd_t gB, nm_q, gd_t gD, nm_q, pk_lDiv hA hBp hB, pk_lDiv hC hDp hD]
  by_cases heq : A / B = C / D
  · have hR2 := ordR_s hR heq
    rw [br_t1 (hq.2.2.mpr heq), nm_q, nm_q, ← pk_lDiv hA hBp hB, ← pk_lDiv hC hDp hD, pk_lRem hA hBp hB, pk_lRem hC hDp hD]
    by_cases r0 : A % B = 0
    · left
      rw [br_t1 (z1.mpr r0)]
      unfold f_X8_order_J90
      rw [br_t1 (z1.mpr r0)]
      by_cases s0 : C % D = 0
      · rw [br_t1 (z2.mpr s0), ordR_eq hR2 (by rw [r0, s0]; rfl)]
      · have h1 : 0 < B * (C % D) := Nat.mul_pos hBp (by omega)
        rw [br_f1 (fun z => s0 (z2.mp z)), br_t1 (z1.mpr r0), ordR_gt hR2 (by rw [r0, Nat.mul_zero]; exact h1)]
    · rw [br_f1 (fun z => r0 (z1.mp z))]
      by_cases s0 : C % D = 0
      · left
        have h1 : 0 < D * (A % B) := Nat.mul_pos hDp (by omega)
        rw [br_t1 (z2.mpr s0)]
        unfold f_X8_order_J90
        rw [br_f1 (fun z => r0 (z1.mp z)), br_f1 (fun z => r0 (z1.mp z)), ordR_lt hR2 (by rw [s0, Nat.mul_zero]; exact h1), Int32.neg_neg]
      · right
        rw [br_f1 (fun z => s0 (z2.mp z)), nm_q]
        obtain ⟨g1, g2⟩ := euc_s hM he hBp
        have hn2 : n < 150 := by
          rcases Nat.lt_or_ge n 150 with z | z
          · exact z
          · exact absurd (euc_end (prod_lt (show p.1 < 2 ^ 63 by omega) (show p.2 < 2 ^ 63 by omega)) he z) (by omega)
        refine ⟨hn2, _, ?_, rfl⟩
        exact ⟨B, A % B, D, C % D, rfl, rfl, rfl, rfl, hB, m1, hD, m2, by omega, by omega, hR2, g2, g1⟩
  · left
    rw [br_f1 (fun z => heq (hq.2.2.mp z))]
    by_cases hlt : A / B ≤ C / D
    · rw [br_t1 (hq.2.1.mpr hlt), ordR_lt hR (div_lt_mul hBp hDp (by omega))]
    · rw [br_f1 (fun z => hlt (hq.2.1.mp z)), ordR_gt hR (div_lt_mul hDp hBp (by omega))]
/-- the three numbers that a basin's kind makes of what comes -/
def lF (k : Nat) (c : Nat × Nat) : Nat × Nat := mulF c (lkF k)
def kF (k : Nat) (c : Nat × Nat) : Nat × Nat := mulF (lF k c) (kpF k)
def gF (k : Nat) (c : Nat × Nat) : Nat × Nat := mulF (lF k c) (goF k)
theorem lF_ok {k : Nat} {c : Nat × Nat} (hc : vF c) : redF (lF k c) ∧ (lF k c).1 < 2 ^ 54 ∧ (lF k c).2 < 2 ^ 54 := by
  obtain ⟨h1, h2, h3⟩ := lkF_ok k
  have h := mulF_le (r := c) (x := lkF k)
  have b1 := hc.2.1
  have b2 := hc.2.2
  have e1 : c.1 * (lkF k).1 ≤ 100000000000 * 90 := Nat.mul_le_mul b1 h1
  have e2 : c.2 * (lkF k).2 ≤ 100000000000 * 90 := Nat.mul_le_mul b2 h3
  have f1 : (lF k c).1 ≤ c.1 * (lkF k).1 := h.1
  have f2 : (lF k c).2 ≤ c.2 * (lkF k).2 := h.2
  exact ⟨mulF_red hc.1.2 h2, by omega, by omega⟩
theorem share8_e {f : Fo} (hV : VG f) {d : Nat → Int32} (hM : MF f d) {b : Nat} (hb : b < f.n) {cu cd : Nat → Int64} {c : Nat × Nat} (hc : vF c) (hu : cu b = lN c.1) (hd : cd b = lN c.2) (all : Prop) (u0 d0 su sd ou od : Int64) :
    f_X8_shareOf (nI b) (kI all) u0 d0 su sd ou od 0 d cu cd = br all
      (some (lN (gF (f.kd b) c).1, lN (gF (f.kd b) c).2, lN (kF (f.kd b) c).1, lN (kF (f.kd b) c).2, lN (gF (f.kd b) c).1, lN (gF (f.kd b) c).2, kI ((bigF (lF (f.kd b) c) ∨ bigF (kF (f.kd b) c)) ∨ bigF (gF (f.kd b) c))))
      (some (lN (kF (f.kd b) c).1, lN (kF (f.kd b) c).2, lN (kF (f.kd b) c).1, lN (kF (f.kd b) c).2, ou, od, kI (bigF (lF (f.kd b) c) ∨ bigF (kF (f.kd b) c)))) := by
  have hn := hV.1
  obtain ⟨hk6, -, -, -, -⟩ := hV.2.1 b hb
  have v : vp_in (nI b) 10 := vp_in_nI (by omega) (by decide)
  have b1 := hc.2.1
  have b2 := hc.2.2
  obtain ⟨r1, r2, r3⟩ := lF_ok (k := f.kd b) hc
  have T1 : ∀ (u d : Int64), f_X8_times (lN c.1) (lN c.2) (lN (lkF (f.kd b)).1) (lN (lkF (f.kd b)).2) u d 0 = some (lN (lF (f.kd b) c).1, lN (lF (f.kd b) c).2, kI (bigF (lF (f.kd b) c))) := by
    intro u d
    obtain ⟨h1, h2, h3⟩ := lkF_ok (f.kd b)
    have h := times8_e (p := c.1) (q := c.2) (x := (lkF (f.kd b)).1) (y := (lkF (f.kd b)).2) hc.1 (by omega) (by omega) h1 h2 h3 rfl rfl False u d
    rw [kI_f (p := False) (fun z => z), kI_c (show (False ∨ bigF (mulF (c.1, c.2) ((lkF (f.kd b)).1, (lkF (f.kd b)).2))) ↔ bigF (lF (f.kd b) c) from ⟨fun z => z.elim False.elim id, Or.inr⟩)] at h
    exact h
  have T2 : ∀ (u d : Int64), f_X8_times (lN (lF (f.kd b) c).1) (lN (lF (f.kd b) c).2) (lN (kpF (f.kd b)).1) (lN (kpF (f.kd b)).2) u d (kI (bigF (lF (f.kd b) c))) = some (lN (kF (f.kd b) c).1, lN (kF (f.kd b) c).2, kI (bigF (lF (f.kd b) c) ∨ bigF (kF (f.kd b) c))) := by
    intro u d
    obtain ⟨h1, h2, h3⟩ := kpF_ok (f.kd b)
    exact times8_e (p := (lF (f.kd b) c).1) (q := (lF (f.kd b) c).2) (x := (kpF (f.kd b)).1) (y := (kpF (f.kd b)).2) r1 r2 r3 h1 h2 h3 rfl rfl (bigF (lF (f.kd b) c)) u d
  have T3 : ∀ (u d : Int64), f_X8_times (lN (lF (f.kd b) c).1) (lN (lF (f.kd b) c).2) (lN (goF (f.kd b)).1) (lN (goF (f.kd b)).2) u d (kI (bigF (lF (f.kd b) c) ∨ bigF (kF (f.kd b) c))) = some (lN (gF (f.kd b) c).1, lN (gF (f.kd b) c).2, kI ((bigF (lF (f.kd b) c) ∨ bigF (kF (f.kd b) c)) ∨ bigF (gF (f.kd b) c))) := by
    intro u d
    obtain ⟨h1, h2, h3⟩ := goF_ok (f.kd b)
    exact times8_e (p := (lF (f.kd b) c).1) (q := (lF (f.kd b) c).2) (x := (goF (f.kd b)).1) (y := (goF (f.kd b)).2) r1 r2 r3 h1 h2 h3 rfl rfl (bigF (lF (f.kd b) c) ∨ bigF (kF (f.kd b) c)) u d
  unfold f_X8_shareOf
  rw [bd_t (its_k hM hn hb).1, gd_t v, gd_t v, nI_clamp (by omega), hu, hd]
  have S1 : ∀ {A : Type} (X : Int64 → Option A), br (nI (f.kd b) = 2) (X 9) (br (nI (f.kd b) = 4) (X 4) (X 1)) = X (lN (lkF (f.kd b)).1) := by
    intro A X
    unfold lkF
    by_cases h2 : f.kd b = 2
    · rw [br_t1 (show nI (f.kd b) = 2 by rw [h2]; rfl), if_pos h2]; rfl
    · rw [br_f1 (nI_ne 2 2 h2), if_neg h2]
      by_cases h4 : f.kd b = 4
      · rw [br_t1 (show nI (f.kd b) = 4 by rw [h4]; rfl), if_pos h4]; rfl
      · rw [br_f1 (nI_ne 4 4 h4), if_neg h4]; rfl
  have S2 : ∀ {A : Type} (X : Int64 → Option A), br (nI (f.kd b) = 2) (X 10) (br (nI (f.kd b) = 4) (X 5) (X 1)) = X (lN (lkF (f.kd b)).2) := by
    intro A X
    unfold lkF
    by_cases h2 : f.kd b = 2
    · rw [br_t1 (show nI (f.kd b) = 2 by rw [h2]; rfl), if_pos h2]; rfl
    · rw [br_f1 (nI_ne 2 2 h2), if_neg h2]
      by_cases h4 : f.kd b = 4
      · rw [br_t1 (show nI (f.kd b) = 4 by rw [h4]; rfl), if_pos h4]; rfl
      · rw [br_f1 (nI_ne 4 4 h4), if_neg h4]; rfl
  have S3 : ∀ {A : Type} (X : Int64 → Int64 → Option A), br (nI (f.kd b) = 3) (br (nI (f.kd b) = 1) (X 0 5) (X 0 3)) (br (nI (f.kd b) = 1) (br (nI (f.kd b) = 1) (X 2 5) (X 2 3)) (br (nI (f.kd b) = 1) (X 1 5) (X 1 3))) = X (lN (kpF (f.kd b)).1) (lN (kpF (f.kd b)).2) := by
    intro A X
    unfold kpF
    by_cases h3 : f.kd b = 3
    · rw [br_t1 (show nI (f.kd b) = 3 by rw [h3]; rfl), br_f1 (nI_ne 1 1 (by omega)), if_pos h3]; rfl
    · rw [br_f1 (nI_ne 3 3 h3), if_neg h3]
      by_cases h1 : f.kd b = 1
      · have e : nI (f.kd b) = 1 := by rw [h1]; rfl
        rw [br_t1 e, br_t1 e, if_pos h1]; rfl
      · rw [br_f1 (nI_ne 1 1 h1), br_f1 (nI_ne 1 1 h1), if_neg h1]; rfl
  have S4 : ∀ {A : Type} (X : Int64 → Option A), br (nI (f.kd b) = 3) (X 1) (br (nI (f.kd b) = 1) (X 3) (X 2)) = X (lN (goF (f.kd b)).1) := by
    intro A X
    unfold goF
    by_cases h3 : f.kd b = 3
    · rw [br_t1 (show nI (f.kd b) = 3 by rw [h3]; rfl), if_pos h3]; rfl
    · rw [br_f1 (nI_ne 3 3 h3), if_neg h3]
      by_cases h1 : f.kd b = 1
      · rw [br_t1 (show nI (f.kd b) = 1 by rw [h1]; rfl), if_pos h1]; rfl
      · rw [br_f1 (nI_ne 1 1 h1), if_neg h1]; rfl
  have S5 : ∀ {A : Type} (X : Int64 → Option A), br (nI (f.kd b) = 3) (X 1) (br (nI (f.kd b) = 1) (X 5) (X 3)) = X (lN (goF (f.kd b)).2) := by
    intro A X
    unfold goF
    by_cases h3 : f.kd b = 3
    · rw [br_t1 (show nI (f.kd b) = 3 by rw [h3]; rfl), if_pos h3]; rfl
    · rw [br_f1 (nI_ne 3 3 h3), if_neg h3]
      by_cases h1 : f.kd b = 1
      · rw [br_t1 (show nI (f.kd b) = 1 by rw [h1]; rfl), if_pos h1]; rfl
      · rw [br_f1 (nI_ne 1 1 h1), if_neg h1]; rfl
  rw [S1 (fun t => f_X8_shareOf_J43 (nI b) (kI all) d cu cd (nI (f.kd b)) (lN c.1) (lN c.2) t u0 d0 su sd ou od 0)]
  unfold f_X8_shareOf_J43
  rw [S2 (fun t => f_X8_shareOf_J66 (nI b) (kI all) d cu cd (nI (f.kd b)) (lN c.1) (lN c.2) (lN (lkF (f.kd b)).1) t u0 d0 su sd ou od 0)]
  unfold f_X8_shareOf_J66
  rw [bd_t (T1 _ _)]
  dsimp only
  rw [S3 (fun t w => f_X8_shareOf_J121 (nI b) (kI all) d cu cd (nI (f.kd b)) (lN (lF (f.kd b) c).1) (lN (lF (f.kd b) c).2) (lN (lF (f.kd b) c).1) (lN (lF (f.kd b) c).2) t w (lN (lF (f.kd b) c).1) (lN (lF (f.kd b) c).2) su sd ou od (kI (bigF (lF (f.kd b) c))))]
  unfold f_X8_shareOf_J121
  rw [bd_t (T2 _ _)]
  dsimp only
  rw [br_kI]
  by_cases ha : all
  · rw [br_t1 ha, br_t1 ha, S4 (fun t => f_X8_shareOf_J172 (nI b) (kI all) d cu cd (nI (f.kd b)) (lN (lF (f.kd b) c).1) (lN (lF (f.kd b) c).2) t (lN (kF (f.kd b) c).1) (lN (kF (f.kd b) c).2) (lN (kF (f.kd b) c).1) (lN (kF (f.kd b) c).2) ou od (kI (bigF (lF (f.kd b) c) ∨ bigF (kF (f.kd b) c))))]
    unfold f_X8_shareOf_J172
    rw [S5 (fun t => f_X8_shareOf_J195 (nI b) (kI all) d cu cd (lN (lF (f.kd b) c).1) (lN (lF (f.kd b) c).2) (lN (goF (f.kd b)).1) t (lN (kF (f.kd b) c).1) (lN (kF (f.kd b) c).2) (lN (kF (f.kd b) c).1) (lN (kF (f.kd b) c).2) ou od (kI (bigF (lF (f.kd b) c) ∨ bigF (kF (f.kd b) c))))]
    unfold f_X8_shareOf_J195
    rw [bd_t (T3 _ _)]
  · rw [br_f1 ha, br_f1 ha]
