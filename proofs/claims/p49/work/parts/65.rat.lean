/-! ===== the law's greatest common divisor; fractions as rationals, and what all shares come to ===== -/
theorem euc_end3 {M i a b : Nat} (hM : M < 2 ^ 128) (h : euc M i a b) (hi : 140 ≤ i) : b = 0 := by
  rcases h with rfl | ⟨h2, h3⟩
  · omega
  · by_cases hb : b = 0
    · exact hb
    · exfalso
      have h4 : 1 ≤ a * b := Nat.mul_pos (by omega) (by omega)
      have h5 : 1 * 2 ^ (i - 1) ≤ a * b * 2 ^ (i - 1) := Nat.mul_le_mul_right _ h4
      have h6 : 2 ^ 128 ≤ 2 ^ (i - 1) := Nat.pow_le_pow_right (by decide) (by omega)
      omega
theorem cmn_go {M : Nat} (hM : M < 2 ^ 128) : ∀ (n i x y : Nat), 140 ≤ i + n → x < 2 ^ 63 → y < 2 ^ 63 → x * y ≤ M → euc M i x y → cmn (n + 1) (lN x) (lN y) = some (lN (Nat.gcd x y))
  | 0, i, x, y, hi, hx, hy, hp, he => by
    have h0 := euc_end3 hM he (by omega)
    subst h0
    unfold cmn
    rw [br_t1 (show lg_cmp (lN 0) (0 : Int64) = 0 from ((lgc_N (a := 0) (b := 0) (by decide) (by decide)).2.2).mpr rfl), Nat.gcd_zero_right]
  | n + 1, i, x, y, hi, hx, hy, hp, he => by
    have hc : lg_cmp (lN y) (0 : Int64) = 0 ↔ y = 0 := (lgc_N (b := 0) hy (by decide)).2.2
    rw [cmn]
    by_cases h0 : y = 0
    · rw [br_t1 (hc.mpr h0), h0, Nat.gcd_zero_right]
    · have hy0 : 0 < y := by omega
      have hz : ¬ lN y = (0 : Int64) := fun q => h0 ((pk_lEQ (b := 0) hy (by decide)).mp q)
      obtain ⟨g1, g2⟩ := euc_s hp he hy0
      rw [br_f1 (fun q => h0 (hc.mp q)), gd_t hz, pk_lRem hx hy0 hy, cmn_go hM n (i + 1) y (x % y) (by omega) hy (Nat.lt_of_le_of_lt (Nat.mod_le x y) hx) g2 g1, gcd_s]
theorem common_e {a b : Nat} (ha : a < 2 ^ 63) (hb : b < 2 ^ 63) : f_L_common (lN a) (lN b) = some (lN (Nat.gcd a b)) := cmn_go (prod_lt ha hb) 149 0 a b (by omega) ha hb (Nat.le_refl _) (Or.inl rfl)
/-- a fraction's value -/
def qv (r : Nat × Nat) : Rat := (r.1 : Rat) / (r.2 : Rat)
theorem nz_q {a : Nat} (h : 1 ≤ a) : (a : Rat) ≠ 0 := fun e => by
  have := Rat.natCast_eq_zero_iff.mp e
  omega
theorem qv_cancel {g a b : Nat} (hg : 1 ≤ g) (hb : 1 ≤ b) : ((a * g : Nat) : Rat) / ((b * g : Nat) : Rat) = (a : Rat) / (b : Rat) := by
  have h1 := nz_q hg
  have h2 := nz_q hb
  rw [Rat.natCast_mul, Rat.natCast_mul]
  grind
theorem qv_low {A B g : Nat} (hA : g ∣ A) (hB : g ∣ B) (hg : 1 ≤ g) (hB1 : 1 ≤ B) : ((A / g : Nat) : Rat) / ((B / g : Nat) : Rat) = (A : Rat) / (B : Rat) := by
  have h := qv_cancel (g := g) (a := A / g) (b := B / g) hg (Nat.div_pos (Nat.le_of_dvd hB1 hB) hg)
  rw [Nat.div_mul_cancel hA, Nat.div_mul_cancel hB] at h
  exact h.symm
theorem qv_mul {r x : Nat × Nat} (h1 : 1 ≤ r.2) (h2 : 1 ≤ x.2) : qv (mulF r x) = qv r * qv x := by
  have hp : 1 ≤ r.2 * x.2 := Nat.mul_pos h1 h2
  have hg : 1 ≤ Nat.gcd (r.1 * x.1) (r.2 * x.2) := Nat.gcd_pos_of_pos_right _ hp
  refine (qv_low (Nat.gcd_dvd_left _ _) (Nat.gcd_dvd_right _ _) hg hp).trans ?_
  have q1 := nz_q h1
  have q2 := nz_q h2
  unfold qv
  rw [Rat.natCast_mul, Rat.natCast_mul]
  grind
theorem qv_0 (r : Nat × Nat) : 0 ≤ qv r := by
  unfold qv
  rw [Rat.div_def]
  refine Rat.mul_nonneg Rat.natCast_nonneg ?_
  by_cases h : r.2 = 0
  · rw [h, show ((0 : Nat) : Rat) = 0 from rfl, Rat.inv_zero]; exact Rat.le_refl
  · exact Rat.le_of_lt (Rat.inv_pos.mpr (Rat.natCast_pos.mpr (by omega)))
noncomputable def fq (o : Option (Nat × Nat)) : Rat := match o with
  | some r => qv r
  | none => 0
theorem fq_0 (o : Option (Nat × Nat)) : 0 ≤ fq o := by
  cases o with
  | none => exact Rat.le_refl
  | some r => exact qv_0 r
def sumQ (g : Nat → Rat) : Nat → Rat
  | 0 => 0
  | n + 1 => sumQ g n + g n
theorem sumQ_cong {g h : Nat → Rat} : ∀ {n : Nat}, (∀ k, k < n → g k = h k) → sumQ g n = sumQ h n
  | 0, _ => rfl
  | n + 1, e => by rw [sumQ, sumQ, sumQ_cong (fun k hk => e k (by omega)), e n (by omega)]
theorem sumQ_add (g h : Nat → Rat) : ∀ n, sumQ (fun k => g k + h k) n = sumQ g n + sumQ h n
  | 0 => by rw [sumQ, sumQ, sumQ]; exact (Rat.add_zero 0).symm
  | n + 1 => by rw [sumQ, sumQ, sumQ, sumQ_add g h n]; grind
theorem sumQ_zero : ∀ n, sumQ (fun _ => 0) n = 0
  | 0 => rfl
  | n + 1 => by rw [sumQ, sumQ_zero n]; exact Rat.add_zero 0
theorem sumQ_le {g h : Nat → Rat} : ∀ {n : Nat}, (∀ k, k < n → g k ≤ h k) → sumQ g n ≤ sumQ h n
  | 0, _ => Rat.le_refl
  | n + 1, e => by
    have h1 := sumQ_le (n := n) (fun k hk => e k (by omega))
    have h2 := e n (by omega)
    rw [sumQ, sumQ]
    grind
theorem sumQ_one (j : Nat) (v : Rat) : ∀ n, sumQ (fun k => if j = k then v else 0) n = if j < n then v else 0
  | 0 => rfl
  | n + 1 => by
    rw [sumQ, sumQ_one j v n]
    by_cases e : j = n
    · rw [if_neg (by omega), if_pos e, if_pos (by omega)]; exact Rat.zero_add v
    · by_cases e2 : j < n
      · rw [if_pos e2, if_neg e, if_pos (by omega)]; exact Rat.add_zero v
      · rw [if_neg e2, if_neg e, if_neg (by omega)]; exact Rat.add_zero 0
theorem kg_1 (k : Nat) : qv (kpF k) + qv (goF k) = 1 := by
  unfold kpF goF
  by_cases h3 : k = 3
  · rw [if_pos h3, if_pos h3]; decide +kernel
  · rw [if_neg h3, if_neg h3]
    by_cases h1 : k = 1
    · rw [if_pos h1, if_pos h1]; decide +kernel
    · rw [if_neg h1, if_neg h1]; decide +kernel
theorem lkq_1 {k : Nat} (h2 : k ≠ 2) (h4 : k ≠ 4) : qv (lkF k) = 1 := by
  unfold lkF
  rw [if_neg h2, if_neg h4]; decide +kernel
theorem lk_le (k : Nat) : qv (lkF k) ≤ 1 := by
  unfold lkF
  by_cases h2 : k = 2
  · rw [if_pos h2]; decide +kernel
  · rw [if_neg h2]
    by_cases h4 : k = 4
    · rw [if_pos h4]; decide +kernel
    · rw [if_neg h4]; decide +kernel
/-- what is kept and what goes on come to what is left by leaking -/
theorem on_some {k : Nat} {o : Option (Nat × Nat)} (ho : ∀ c, o = some c → vF c) (h : onOf k o ≠ none) : ∃ c, o = some c ∧ fq (keptOf k o) + fq (onOf k o) = qv c * qv (lkF k) := by
  cases o with
  | none => exact absurd rfl h
  | some c =>
    refine ⟨c, rfl, ?_⟩
    have hc := ho c rfl
    by_cases hb : (bigF (lF k c) ∨ bigF (kF k c)) ∨ bigF (gF k c)
    · exact absurd (onOf_n hb) h
    · rw [onOf_t hb, keptOf_t (fun q => hb (Or.inl q))]
      show qv (kF k c) + qv (gF k c) = _
      have hl : 1 ≤ (lF k c).2 := (mulF_red hc.1.2 (lkF_ok k).2.1).2
      rw [show kF k c = mulF (lF k c) (kpF k) from rfl, show gF k c = mulF (lF k c) (goF k) from rfl, qv_mul hl (kpF_ok k).2.1, qv_mul hl (goF_ok k).2.1, show lF k c = mulF c (lkF k) from rfl, qv_mul hc.1.2 (lkF_ok k).2.1, ← Rat.mul_add, kg_1, Rat.mul_one]
/-- all shares, and all that goes on at last, could be told -/
def allF (f : Fo) : Prop := ∀ b, b < f.n → f.keptF b ≠ none ∧ f.restF b ≠ none
theorem wd_child {f : Fo} {b : Nat} (h : f.wd b ≠ 0) : ∃ o, o < f.n ∧ 1 ≤ o ∧ f.ab o = b := by
  refine Classical.byContradiction (fun q => h (sumN_zero.mpr (fun k hk => if_neg (fun z => q ⟨k, hk, z.1, z.2⟩))))
theorem all_on {f : Fo} (hV : VG f) (hA : allF f) {b : Nat} (hb : b < f.n) : f.onF b ≠ none := by
  by_cases hz : f.wd b = 0
  · have := (hA b hb).2
    rw [show f.restF b = f.onF b from if_pos hz] at this
    exact this
  · obtain ⟨o, ho, h1, h2⟩ := wd_child hz
    intro q
    refine (hA o ho).1 ?_
    unfold Fo.keptF
    rw [comeF_s h1 ((hV.2.1 o ho).2.2.2.2 h1), h2, q]
    rfl
theorem all_e1 {f : Fo} (hV : VG f) (hA : allF f) {b : Nat} (hb : b < f.n) : fq (f.keptF b) + fq (f.onF b) = fq (f.comeF b) * qv (lkF (f.kd b)) := by
  obtain ⟨c, hc, h⟩ := on_some (k := f.kd b) (o := f.comeF b) (come_v hV b hb) (all_on hV hA hb)
  have h' : fq (f.keptF b) + fq (f.onF b) = qv c * qv (lkF (f.kd b)) := h
  rw [h', hc]
  rfl
theorem all_e2 {f : Fo} (hV : VG f) (hA : allF f) {o : Nat} (ho : o < f.n) (h1 : 1 ≤ o) : fq (f.comeF o) = fq (f.onF (f.ab o)) * qv (f.ed o, f.wd (f.ab o)) := by
  have ha := (hV.2.1 o ho).2.2.2.2 h1
  have hw := wd_ge (f := f) (b := o) h1 ho
  have hed := (hV.2.1 o ho).2.1
  have hk := (hA o ho).1
  unfold Fo.keptF at hk
  rw [comeF_s h1 ha] at hk ⊢
  cases hon : f.onF (f.ab o) with
  | none => exact absurd hon (all_on hV hA (by omega))
  | some r =>
    rw [hon] at hk
    have hr := on_v2 hV (show f.ab o < f.n by omega) hon
    show fq (chk (mulF r (f.ed o, f.wd (f.ab o)))) = _
    cases hch : chk (mulF r (f.ed o, f.wd (f.ab o))) with
    | none =>
      exfalso
      apply hk
      show keptOf (f.kd o) (chk (mulF r (f.ed o, f.wd (f.ab o)))) = none
      rw [hch]
      rfl
    | some s =>
      obtain ⟨-, e, -⟩ := vF_chk hr.1.2 (show 1 ≤ f.wd (f.ab o) by omega) hch
      show qv s = qv r * _
      rw [e, qv_mul hr.1.2 (show 1 ≤ f.wd (f.ab o) by omega)]
noncomputable def Fo.chQ (f : Fo) (i b : Nat) : Rat := sumQ (fun o => if 1 ≤ o ∧ f.ab o = b then fq (f.comeF o) else 0) i
theorem chQ_e {f : Fo} (hV : VG f) (hA : allF f) (b : Nat) : ∀ i, i ≤ f.n → f.chQ i b = fq (f.onF b) * qv (f.wdP i b, f.wd b)
  | 0, _ => by
    show (0 : Rat) = fq (f.onF b) * (((0 : Nat) : Rat) / (f.wd b : Rat))
    rw [Rat.div_def, show ((0 : Nat) : Rat) = 0 from rfl, Rat.zero_mul, Rat.mul_zero]
  | i + 1, hi => by
    have ih := chQ_e hV hA b i (by omega)
    unfold Fo.chQ at ih ⊢
    rw [sumQ, ih]
    have e : f.wdP (i + 1) b = f.wdP i b + (if 1 ≤ i ∧ f.ab i = b then f.ed i else 0) := rfl
    by_cases h : 1 ≤ i ∧ f.ab i = b
    · rw [if_pos h, e, if_pos h, all_e2 hV hA (by omega) h.1, h.2]
      unfold qv
      dsimp only
      rw [Rat.natCast_add, Rat.div_def, Rat.div_def, Rat.div_def, Rat.add_mul, Rat.mul_add]
    · rw [if_neg h, e, if_neg h, Nat.add_zero]
      exact Rat.add_zero _
theorem chQ_n {f : Fo} (hV : VG f) (hA : allF f) (b : Nat) : fq (f.restF b) + f.chQ f.n b = fq (f.onF b) := by
  rw [chQ_e hV hA b f.n (Nat.le_refl _)]
  show fq (f.restF b) + fq (f.onF b) * ((f.wd b : Rat) / (f.wd b : Rat)) = _
  by_cases hz : f.wd b = 0
  · rw [show f.restF b = f.onF b from if_pos hz, hz, Rat.div_def, show ((0 : Nat) : Rat) = 0 from rfl, Rat.zero_mul, Rat.mul_zero, Rat.add_zero]
  · have h := nz_q (a := f.wd b) (by omega)
    rw [show f.restF b = some (0, 1) from if_neg hz, Rat.div_def, Rat.mul_inv_cancel _ h, Rat.mul_one]
    show qv (0, 1) + _ = _
    rw [show qv (0, 1) = 0 by decide +kernel, Rat.zero_add]
noncomputable def Fo.cdQ (f : Fo) (o : Nat) : Rat := if o = 0 then 0 else fq (f.comeF o)
theorem chQ_sum {f : Fo} (hV : VG f) : ∀ i, i ≤ f.n → sumQ (fun b => f.chQ i b) f.n = sumQ f.cdQ i
  | 0, _ => sumQ_zero f.n
  | i + 1, hi => by
    have ih := chQ_sum hV i (by omega)
    rw [sumQ, ← ih]
    have e : sumQ (fun b => f.chQ (i + 1) b) f.n = sumQ (fun b => f.chQ i b + (if 1 ≤ i ∧ f.ab i = b then fq (f.comeF i) else 0)) f.n := rfl
    rw [e, sumQ_add]
    congr 1
    by_cases h : i = 0
    · subst h
      rw [show f.cdQ 0 = 0 from rfl]
      refine (sumQ_cong (fun k _ => if_neg (by omega))).trans (sumQ_zero f.n)
    · have ha := (hV.2.1 i (by omega)).2.2.2.2 (by omega)
      rw [show f.cdQ i = fq (f.comeF i) from if_neg h]
      have e2 := sumQ_one (f.ab i) (fq (f.comeF i)) f.n
      rw [if_pos (by omega)] at e2
      refine Eq.trans ?_ e2
      exact sumQ_cong (fun k _ => by
        by_cases q : f.ab i = k
        · rw [if_pos ⟨by omega, q⟩, if_pos q]
        · rw [if_neg (fun c => q c.2), if_neg q])
theorem come_sum (f : Fo) : ∀ i, 1 ≤ i → sumQ (fun b => fq (f.comeF b)) i = 1 + sumQ f.cdQ i
  | 0, h => absurd h (by omega)
  | 1, _ => by
    show (0 : Rat) + fq (f.comeF 0) = 1 + (0 + f.cdQ 0)
    rw [comeF_0, show f.cdQ 0 = 0 from rfl]
    decide +kernel
  | i + 2, _ => by
    have ih := come_sum f (i + 1) (by omega)
    have e : f.cdQ (i + 1) = fq (f.comeF (i + 1)) := if_neg (by omega)
    rw [sumQ, ih, show sumQ f.cdQ (i + 2) = sumQ f.cdQ (i + 1) + f.cdQ (i + 1) from rfl, e, Rat.add_assoc]
/-- all shares and all that goes on at last: what comes, less what leaks, less what comes to those below -/
theorem all_sum {f : Fo} (hV : VG f) (hA : allF f) : sumQ (fun b => fq (f.keptF b) + fq (f.restF b)) f.n + sumQ f.cdQ f.n = sumQ (fun b => fq (f.comeF b) * qv (lkF (f.kd b))) f.n := by
  rw [← chQ_sum hV f.n (Nat.le_refl _), ← sumQ_add]
  refine sumQ_cong (fun b hb => ?_)
  rw [Rat.add_assoc, chQ_n hV hA b, all_e1 hV hA hb]
theorem all_1 {f : Fo} (hV : VG f) (hA : allF f) (hn : f.n ≠ 0) (hl : ∀ b, b < f.n → f.kd b ≠ 2 ∧ f.kd b ≠ 4) : sumQ (fun b => fq (f.keptF b) + fq (f.restF b)) f.n = 1 := by
  have h1 := all_sum hV hA
  have h2 := come_sum f f.n (by omega)
  have h3 : sumQ (fun b => fq (f.comeF b) * qv (lkF (f.kd b))) f.n = sumQ (fun b => fq (f.comeF b)) f.n := sumQ_cong (fun b hb => by rw [lkq_1 (hl b hb).1 (hl b hb).2, Rat.mul_one])
  rw [h3, h2] at h1
  exact Rat.add_right_cancel _ h1
theorem all_le {f : Fo} (hV : VG f) (hA : allF f) (hn : f.n ≠ 0) : sumQ (fun b => fq (f.keptF b) + fq (f.restF b)) f.n ≤ 1 := by
  have h1 := all_sum hV hA
  have h2 := come_sum f f.n (by omega)
  have h3 : sumQ (fun b => fq (f.comeF b) * qv (lkF (f.kd b))) f.n ≤ sumQ (fun b => fq (f.comeF b)) f.n := sumQ_le (fun b hb => by
    have h := Rat.mul_le_mul_of_nonneg_left (lk_le (f.kd b)) (fq_0 (f.comeF b))
    rw [Rat.mul_one] at h
    exact h)
  rw [← h1, h2] at h3
  exact Rat.add_le_add_right.mp h3
/-- the fractions in the order in which they are told: each share, and what goes on there at last -/
noncomputable def seqF (f : Fo) (t : Nat) : Option (Nat × Nat) := if t % 2 = 0 then f.keptF (t / 2) else f.restF (t / 2)
theorem seqF_0 (f : Fo) (i : Nat) : seqF f (2 * i) = f.keptF i := by
  unfold seqF
  rw [if_pos (by omega), show 2 * i / 2 = i by omega]
theorem seqF_1 (f : Fo) (i : Nat) : seqF f (2 * i + 1) = f.restF i := by
  unfold seqF
  rw [if_neg (by omega), show (2 * i + 1) / 2 = i by omega]
theorem seq_sum (f : Fo) : ∀ i, sumQ (fun s => fq (seqF f s)) (2 * i) = sumQ (fun b => fq (f.keptF b) + fq (f.restF b)) i
  | 0 => rfl
  | i + 1 => by
    rw [show 2 * (i + 1) = 2 * i + 1 + 1 by omega, sumQ, sumQ, seq_sum f i, sumQ, seqF_0, seqF_1, Rat.add_assoc]
theorem seq_all {f : Fo} (h : ∀ s, s < 2 * f.n → seqF f s ≠ none) : allF f := fun b hb => by
  have h0 := h (2 * b) (by omega)
  have h1 := h (2 * b + 1) (by omega)
  rw [seqF_0] at h0
  rw [seqF_1] at h1
  exact ⟨h0, h1⟩
/-- no fraction is above one -/
theorem mulF_le1 {r x : Nat × Nat} (h1 : r.1 ≤ r.2) (h2 : x.1 ≤ x.2) : (mulF r x).1 ≤ (mulF r x).2 := Nat.div_le_div_right (Nat.mul_le_mul h1 h2)
theorem chk_le {r x s : Nat × Nat} (h1 : r.1 ≤ r.2) (h2 : x.1 ≤ x.2) (h : chk (mulF r x) = some s) : s.1 ≤ s.2 := by
  by_cases hb : bigF (mulF r x)
  · rw [chk_f hb] at h; cases h
  · rw [chk_t hb] at h
    injection h with h
    rw [← h]
    exact mulF_le1 h1 h2
theorem lkF_le (k : Nat) : (lkF k).1 ≤ (lkF k).2 := by
  unfold lkF
  repeat' split
  all_goals decide
theorem kpF_le (k : Nat) : (kpF k).1 ≤ (kpF k).2 := by
  unfold kpF
  repeat' split
  all_goals decide
theorem goF_le (k : Nat) : (goF k).1 ≤ (goF k).2 := by
  unfold goF
  repeat' split
  all_goals decide
theorem left_le {k : Nat} {o : Option (Nat × Nat)} {l : Nat × Nat} (ho : ∀ c, o = some c → c.1 ≤ c.2) (h : leftOf k o = some l) : l.1 ≤ l.2 := by
  cases o with
  | none => cases h
  | some c => exact chk_le (ho c rfl) (lkF_le k) h
theorem kept_le {k : Nat} {o : Option (Nat × Nat)} {l : Nat × Nat} (ho : ∀ c, o = some c → c.1 ≤ c.2) (h : keptOf k o = some l) : l.1 ≤ l.2 := by
  unfold keptOf at h
  cases hl : leftOf k o with
  | none => rw [hl] at h; cases h
  | some x => rw [hl] at h; exact chk_le (left_le ho hl) (kpF_le k) h
theorem on_le {k : Nat} {o : Option (Nat × Nat)} {l : Nat × Nat} (ho : ∀ c, o = some c → c.1 ≤ c.2) (h : onOf k o = some l) : l.1 ≤ l.2 := by
  unfold onOf at h
  cases hk : keptOf k o with
  | none => rw [hk] at h; cases h
  | some y =>
    rw [hk] at h
    have h : ((leftOf k o).bind fun l => chk (mulF l (goF k))) = some l := h
    cases hl : leftOf k o with
    | none => rw [hl] at h; cases h
    | some x => rw [hl] at h; exact chk_le (left_le ho hl) (goF_le k) h
theorem come_le {f : Fo} (hV : VG f) : ∀ b, b < f.n → ∀ c, f.comeF b = some c → c.1 ≤ c.2 := by
  intro b
  induction b using Nat.strongRecOn with
  | _ b ih =>
    intro hb c hc
    by_cases h0 : b = 0
    · rw [h0, comeF_0] at hc
      injection hc with hc
      rw [← hc]; decide
    · have ha := (hV.2.1 b hb).2.2.2.2 (by omega)
      rw [comeF_s (by omega) ha] at hc
      cases ho : f.onF (f.ab b) with
      | none => rw [ho] at hc; cases hc
      | some r =>
        rw [ho] at hc
        exact chk_le (on_le (ih _ ha (by omega)) ho) (show f.ed b ≤ f.wd (f.ab b) from wd_ge (f := f) (b := b) (by omega) hb) hc
theorem seq_ok {f : Fo} (hV : VG f) {t : Nat} (ht : t / 2 < f.n) {r : Nat × Nat} (h : seqF f t = some r) : vF r ∧ r.1 ≤ r.2 := by
  unfold seqF at h
  by_cases h2 : t % 2 = 0
  · rw [if_pos h2] at h
    exact ⟨kept_v2 hV ht h, kept_le (come_le hV _ ht) h⟩
  · rw [if_neg h2] at h
    unfold Fo.restF at h
    by_cases hz : f.wd (t / 2) = 0
    · rw [if_pos hz] at h
      exact ⟨on_v2 hV ht h, on_le (come_le hV _ ht) h⟩
    · rw [if_neg hz] at h
      injection h with h
      rw [← h]
      exact ⟨⟨⟨by decide, by decide⟩, by decide, by decide⟩, by decide⟩
