/-! ===== what all shares come to, as the law reckons it ===== -/
theorem lgc_eq (x y : Int64) : lg_cmp x y = 0 ↔ x = y := by
  unfold lg_cmp
  by_cases h1 : x > y
  · rw [if_pos h1]
    have h2 : y.toInt < x.toInt := Int64.lt_iff_toInt_lt.mp h1
    exact ⟨fun h => absurd h (by decide), fun h => by rw [h] at h2; omega⟩
  · rw [if_neg h1]
    by_cases h3 : x = y
    · rw [if_pos h3]; exact ⟨fun _ => h3, fun _ => rfl⟩
    · rw [if_neg h3]; exact ⟨fun h => absurd h (by decide), fun h => absurd h h3⟩
theorem lN_nS {a : Nat} (ha : a < 2 ^ 63) : ¬ lg_cmp (lN a) (-1000007 : Int64) = 0 := by
  rw [lgc_eq]
  intro h
  have := congrArg Int64.toInt h
  rw [pk_lT ha, show (-1000007 : Int64).toInt = -1000007 from rfl] at this
  omega
/-- what has been added up: nothing to tell any more, or the sum of the first t fractions -/
def okS (f : Fo) (t : Nat) (x y : Int64) : Prop := ∃ up dn : Nat, x = lN up ∧ y = lN dn ∧ (dn = 0 ∨ (1 ≤ dn ∧ dn ≤ 100000000000000 ∧ up ≤ t * dn ∧ (∀ s, s < t → seqF f s ≠ none) ∧ (up : Rat) / (dn : Rat) = sumQ (fun s => fq (seqF f s)) t))
theorem okS_lost (f : Fo) (t up : Nat) : okS f t (lN up) (0 : Int64) := ⟨up, 0, rfl, rfl, Or.inl rfl⟩
/-- one fraction more -/
theorem acc_n {f : Fo} {t up dn : Nat} {r : Nat × Nat} (ht : t ≤ 20) (hr : vF r ∧ r.1 ≤ r.2) (hs : seqF f t = some r) (h1 : 1 ≤ dn) (hd : dn ≤ 10000000) (hr7 : r.2 ≤ 10000000) (hu : up ≤ t * dn) (ha : ∀ s, s < t → seqF f s ≠ none) (hq : (up : Rat) / (dn : Rat) = sumQ (fun s => fq (seqF f s)) t) :
    ∃ A B : Nat, A = up * (r.2 / Nat.gcd dn r.2) + r.1 * (dn / Nat.gcd dn r.2) ∧ B = dn / Nat.gcd dn r.2 * r.2 ∧ 1 ≤ Nat.gcd dn r.2 ∧ A < 2 ^ 62 ∧ B < 2 ^ 62 ∧ 1 ≤ Nat.gcd A B ∧ okS f (t + 1) (lN (A / Nat.gcd A B)) (lN (B / Nat.gcd A B)) := by
  have hr1 : 1 ≤ r.2 := hr.1.1.2
  have hg : 1 ≤ Nat.gcd dn r.2 := Nat.gcd_pos_of_pos_left _ h1
  obtain ⟨d', hd'⟩ : ∃ d', d' = dn / Nat.gcd dn r.2 := ⟨_, rfl⟩
  obtain ⟨t', ht'⟩ : ∃ t', t' = r.2 / Nat.gcd dn r.2 := ⟨_, rfl⟩
  have ed : d' * Nat.gcd dn r.2 = dn := by rw [hd']; exact Nat.div_mul_cancel (Nat.gcd_dvd_left _ _)
  have et : t' * Nat.gcd dn r.2 = r.2 := by rw [ht']; exact Nat.div_mul_cancel (Nat.gcd_dvd_right _ _)
  rw [← hd', ← ht']
  generalize Nat.gcd dn r.2 = g at hg ed et ⊢
  have d1 : 1 ≤ d' := by
    rcases Nat.eq_zero_or_pos d' with h | h
    · rw [h, Nat.zero_mul] at ed; omega
    · exact h
  have t1 : 1 ≤ t' := by
    rcases Nat.eq_zero_or_pos t' with h | h
    · rw [h, Nat.zero_mul] at et; omega
    · exact h
  have dle : d' ≤ dn := by rw [← ed]; exact Nat.le_mul_of_pos_right d' hg
  obtain ⟨A, hA⟩ : ∃ A, A = up * t' + r.1 * d' := ⟨_, rfl⟩
  obtain ⟨B, hB⟩ : ∃ B, B = d' * r.2 := ⟨_, rfl⟩
  have hAB : A ≤ (t + 1) * B := by
    have e1 : up * t' ≤ t * (d' * r.2) := by
      have := Nat.mul_le_mul_right t' hu
      rw [← ed] at this
      rw [← et]
      have e : t * (d' * g) * t' = t * (d' * (t' * g)) := by rw [Nat.mul_assoc, Nat.mul_assoc d', Nat.mul_comm g t']
      omega
    have e2 : r.1 * d' ≤ d' * r.2 := by rw [Nat.mul_comm]; exact Nat.mul_le_mul_left d' hr.2
    rw [hA, hB, Nat.add_mul, Nat.one_mul]
    omega
  have hB1 : 1 ≤ B := by rw [hB]; exact Nat.mul_pos d1 hr1
  have hB14 : B ≤ 100000000000000 := by
    rw [hB]
    exact Nat.le_trans (Nat.mul_le_mul (Nat.le_trans dle hd) hr7) (by decide)
  have hA62 : A ≤ 21 * 100000000000000 := Nat.le_trans hAB (Nat.mul_le_mul (by omega) hB14)
  have hv : 1 ≤ Nat.gcd A B := Nat.gcd_pos_of_pos_right _ hB1
  refine ⟨A, B, hA, hB, hg, by omega, by omega, hv, A / Nat.gcd A B, B / Nat.gcd A B, rfl, rfl, Or.inr ⟨?_, ?_, ?_, ?_, ?_⟩⟩
  · exact Nat.div_pos (Nat.le_of_dvd hB1 (Nat.gcd_dvd_right _ _)) hv
  · exact Nat.le_trans (Nat.div_le_self _ _) hB14
  · have e1 : A / Nat.gcd A B * Nat.gcd A B = A := Nat.div_mul_cancel (Nat.gcd_dvd_left _ _)
    have e2 : B / Nat.gcd A B * Nat.gcd A B = B := Nat.div_mul_cancel (Nat.gcd_dvd_right _ _)
    refine Nat.le_of_mul_le_mul_right (c := Nat.gcd A B) ?_ hv
    rw [e1, Nat.mul_assoc, e2]
    exact hAB
  · intro s hs2
    by_cases e : s = t
    · rw [e, hs]; intro q; cases q
    · exact ha s (by omega)
  · rw [qv_low (Nat.gcd_dvd_left _ _) (Nat.gcd_dvd_right _ _) hv hB1, sumQ, ← hq, hs]
    show (A : Rat) / (B : Rat) = (up : Rat) / (dn : Rat) + (r.1 : Rat) / (r.2 : Rat)
    rw [hA, hB, ← ed, ← et]
    have q1 := nz_q hg
    have q2 := nz_q d1
    have q3 := nz_q t1
    simp only [Rat.natCast_mul, Rat.natCast_add]
    grind
theorem j110 {f : Fo} {vT_present_basins : Int32} {vT_present_spring : Int32} {vT_present_hour : Int32} {vT_present_z : Int32} {cT_present_edge : Nat → Int32} {cT_present_pool : Nat → Int32} {vT_tape_size : Int32} {cT_present_spot : Nat → Int32} {cT_present_kind : Nat → Int32} {cT_present_above : Nat → Int32} {cT_present_store : Nat → Int32} {rc17 : (Int32 × Int64 × Int64 × Int32 × Int32 × (Nat → Int32) × Int32 × Int32 × Int32 × Int32 × (Nat → Int32) × (Nat → Int32) × (Nat → Int32) × (Nat → Int32) × (Nat → Int32) × Int64 × Int64 × (Nat → Int64) × (Nat → Int64) × (Nat → Int32) × (Nat → Int64) × (Nat → Int64) × (Nat → Int32)) → Option (Int32 × (Nat → Int32) × Int32 × Int32 × Int32 × Int32 × (Nat → Int32) × (Nat → Int32) × (Nat → Int32) × (Nat → Int32) × (Nat → Int32) × Int64 × Int64 × (Nat → Int64) × (Nat → Int64) × (Nat → Int32) × (Nat → Int64) × (Nat → Int64) × (Nat → Int32))} {rc58 : (Int32 × Int64 × Int64 × Int32 × Int32 × Int32 × (Nat → Int32) × Int32 × Int32 × Int32 × Int32 × (Nat → Int32) × (Nat → Int32) × (Nat → Int32) × (Nat → Int32) × (Nat → Int32) × Int64 × Int64 × (Nat → Int64) × (Nat → Int64) × (Nat → Int32) × (Nat → Int64) × (Nat → Int64) × (Nat → Int32)) → Option (Int32 × (Nat → Int32) × Int32 × Int32 × Int32 × Int32 × (Nat → Int32) × (Nat → Int32) × (Nat → Int32) × (Nat → Int32) × (Nat → Int32) × Int64 × Int64 × (Nat → Int64) × (Nat → Int64) × (Nat → Int32) × (Nat → Int64) × (Nat → Int64) × (Nat → Int32))} {y1 : Int32} {y2 : Int64} {y4 : Int64} {y6 : Int32} {y7 : Int32} {y8 : Int32} {y9 : Int64} {t0 : Int64} {cT_told : Nat → Int32} {vT_flow_kept : Int32} {vT_flow_leaked : Int32} {vT_flow_ranOff : Int32} {vT_flow_uneven : Int32} {cT_flow_width : Nat → Int32} {cT_flow_goesOn : Nat → Int32} {cT_flow_comes : Nat → Int32} {cT_flow_keeps : Nat → Int32} {cT_flow_holds : Nat → Int32} {vT_shares_top : Int64} {vT_shares_bottom : Int64} {cT_shares_onTop : Nat → Int64} {cT_shares_onBottom : Nat → Int64} {cT_shares_onFits : Nat → Int32} {cT_shares_keptTop : Nat → Int64} {cT_shares_keptBottom : Nat → Int64} {cT_shares_keptFits : Nat → Int32} {t k : Nat} {o : Option (Nat × Nat)} (hok : okS f t y2 y4) (ho : seqF f t = o) (hv : ∀ r, o = some r → vF r ∧ r.1 ≤ r.2) (ha : frQ o 0 y9) (hc : frQ o 1 t0) (ht : t ≤ 20) (hk : y8 = nI k) : ∃ s1 : Int32 × Int64 × Int64 × Int32 × Int32 × Int32 × (Nat → Int32) × Int32 × Int32 × Int32 × Int32 × (Nat → Int32) × (Nat → Int32) × (Nat → Int32) × (Nat → Int32) × (Nat → Int32) × Int64 × Int64 × (Nat → Int64) × (Nat → Int64) × (Nat → Int32) × (Nat → Int64) × (Nat → Int64) × (Nat → Int32), (s1.1 = y1 ∧ okS f (t + 1) s1.2.1 s1.2.2.1 ∧ s1.2.2.2.1 = y6 ∧ s1.2.2.2.2.1 = y7 ∧ s1.2.2.2.2.2.1 = nI (k + 1)) ∧ f_L_areShares_J110 vT_present_basins vT_present_spring vT_present_hour vT_present_z cT_present_edge cT_present_pool vT_tape_size cT_present_spot cT_present_kind cT_present_above cT_present_store rc17 rc58 y1 y2 y4 y6 y7 y8 y9 t0 cT_told vT_flow_kept vT_flow_leaked vT_flow_ranOff vT_flow_uneven cT_flow_width cT_flow_goesOn cT_flow_comes cT_flow_keeps cT_flow_holds vT_shares_top vT_shares_bottom cT_shares_onTop cT_shares_onBottom cT_shares_onFits cT_shares_keptTop cT_shares_keptBottom cT_shares_keptFits = rc58 s1
  := by
  obtain ⟨up, dn, rfl, rfl, hd⟩ := hok
  subst hk
  unfold f_L_areShares_J110
  rcases ha with ⟨r, hr, ha⟩ | ⟨hr, ha⟩
  rotate_left
  · rcases hc with ⟨r', hr', hc⟩ | ⟨hr', hc⟩
    · rw [hr] at hr'; cases hr'
    · unfold f_L_areShares_J130
      rw [ha, hc, br_t1 ((lgc_eq _ _).mpr rfl), br_t1 ((lgc_eq _ _).mpr rfl)]
      refine ⟨_, ?_, rfl⟩
      exact ⟨rfl, okS_lost f _ up, rfl, rfl, nI_1 k⟩
  rcases hc with ⟨r', hr', hc⟩ | ⟨hr', hc⟩
  rotate_left
  · rw [hr] at hr'; cases hr'
  rw [hr] at hr'
  injection hr' with hr'
  subst hr'
  have ha : y9 = lN r.1 := ha
  have hc : t0 = lN r.2 := hc
  subst ha hc
  obtain ⟨hvr, hle⟩ := hv r hr
  have b1 : r.1 < 2 ^ 63 := by have := hvr.2.1; omega
  have b2 : r.2 < 2 ^ 63 := by have := hvr.2.2; omega
  have hr1 : 1 ≤ r.2 := hvr.1.2
  have c1 : ¬ lg_cmp (lN r.1) (0 : Int64) < 0 := by
    rw [lgc_lt, pk_lT b1, show (0 : Int64).toInt = 0 from rfl]; omega
  have c2 : ¬ lg_cmp (lN r.2) (1 : Int64) < 0 := by
    rw [lgc_lt, pk_lT b2, show (1 : Int64).toInt = 1 from rfl]; omega
  have c3 : ¬ 0 < lg_cmp (lN r.1) (lN r.2) := by
    rw [lgc_gt, pk_lT b1, pk_lT b2]; omega
  have c4 : lg_cmp (lN (Nat.gcd r.1 r.2)) (1 : Int64) = 0 := by rw [hvr.1.1]; exact (lgc_eq _ _).mpr rfl
  have c5 : lg_cmp (lN r.2) (100000000000 : Int64) ≤ 0 := ((lgc_N (b := 100000000000) b2 (by decide)).2.1).mpr hvr.2.2
  rw [br_f1 (lN_nS b1), br_f1 (lN_nS b2), br_f1 c1, br_f1 c2, br_f1 c3, bd_t (common_e b1 b2), br_t1 c4, br_t1 c5]
  rcases hd with rfl | ⟨d1, d2, d3, d4, d5⟩
  · rw [br_t1 (show lg_cmp (lN 0) (0 : Int64) = 0 from (lgc_eq _ _).mpr rfl)]
    refine ⟨_, ?_, rfl⟩
    exact ⟨rfl, okS_lost f _ up, rfl, rfl, nI_1 k⟩
  have bd2 : dn < 2 ^ 63 := by omega
  have c6 : ¬ lg_cmp (lN dn) (0 : Int64) = 0 := fun q => by
    have := ((lgc_N (b := 0) bd2 (by decide)).2.2).mp q
    omega
  rw [br_f1 c6]
  have c7 : 0 < lg_cmp (lN dn) (10000000 : Int64) ↔ 10000000 < dn := (lgc_N (b := 10000000) bd2 (by decide)).1
  by_cases hd7 : 10000000 < dn
  · rw [br_t1 (c7.mpr hd7)]
    refine ⟨_, ?_, rfl⟩
    exact ⟨rfl, okS_lost f _ up, rfl, rfl, nI_1 k⟩
  rw [br_f1 (fun q => hd7 (c7.mp q))]
  have c8 : lg_cmp (lN r.2) (10000000 : Int64) ≤ 0 ↔ r.2 ≤ 10000000 := (lgc_N (b := 10000000) b2 (by decide)).2.1
  by_cases hr7 : r.2 ≤ 10000000
  rotate_left
  · rw [br_f1 (fun q => hr7 (c8.mp q))]
    refine ⟨_, ?_, rfl⟩
    exact ⟨rfl, okS_lost f _ up, rfl, rfl, nI_1 k⟩
  rw [br_t1 (c8.mpr hr7)]
  obtain ⟨A, B, hA, hB, hg, hA6, hB6, hvg, hok⟩ := acc_n ht ⟨hvr, hle⟩ (ho.trans hr) d1 (by omega) hr7 d3 d4 d5
  have gle : Nat.gcd dn r.2 ≤ dn := Nat.le_of_dvd d1 (Nat.gcd_dvd_left _ _)
  have vle : Nat.gcd A B < 2 ^ 63 := by
    by_cases hB0 : B = 0
    · rw [hB0, Nat.gcd_zero_right]; omega
    · have := Nat.le_of_dvd (Nat.pos_of_ne_zero hB0) (Nat.gcd_dvd_right A B); omega
  have z1 : ¬ lN (Nat.gcd dn r.2) = (0 : Int64) := fun q => by
    have := (pk_lEQ (b := 0) (show Nat.gcd dn r.2 < 2 ^ 63 by omega) (by decide)).mp q
    omega
  have z2 : ¬ lN (Nat.gcd A B) = (0 : Int64) := fun q => by
    have := (pk_lEQ (b := 0) vle (by decide)).mp q
    omega
  rw [bd_t (common_e bd2 b2), gd_t z1, gd_t z1, pk_lDiv b2 hg (by omega), pk_lDiv bd2 hg (by omega), lN_mul, lN_mul, lN_add, nm_q, gd_t z1, lN_mul, nm_q, ← hA, ← hB, bd_t (common_e (show A < 2 ^ 63 by omega) (show B < 2 ^ 63 by omega)), gd_t z2, pk_lDiv (show A < 2 ^ 63 by omega) hvg vle, nm_q, gd_t z2, pk_lDiv (show B < 2 ^ 63 by omega) hvg vle, nm_q]
  refine ⟨_, ?_, rfl⟩
  exact ⟨rfl, hok, rfl, rfl, nI_1 k⟩
theorem l58 {f : Fo} {vT_present_basins : Int32} {vT_present_spring : Int32} {vT_present_hour : Int32} {vT_present_z : Int32} {cT_present_edge : Nat → Int32} {cT_present_pool : Nat → Int32} {vT_tape_size : Int32} {cT_present_spot : Nat → Int32} {cT_present_kind : Nat → Int32} {cT_present_above : Nat → Int32} {cT_present_store : Nat → Int32} {rc17 : (Int32 × Int64 × Int64 × Int32 × Int32 × (Nat → Int32) × Int32 × Int32 × Int32 × Int32 × (Nat → Int32) × (Nat → Int32) × (Nat → Int32) × (Nat → Int32) × (Nat → Int32) × Int64 × Int64 × (Nat → Int64) × (Nat → Int64) × (Nat → Int32) × (Nat → Int64) × (Nat → Int64) × (Nat → Int32)) → Option (Int32 × (Nat → Int32) × Int32 × Int32 × Int32 × Int32 × (Nat → Int32) × (Nat → Int32) × (Nat → Int32) × (Nat → Int32) × (Nat → Int32) × Int64 × Int64 × (Nat → Int64) × (Nat → Int64) × (Nat → Int32) × (Nat → Int64) × (Nat → Int64) × (Nat → Int32))} (s0 : Int32 × Int64 × Int64 × Int32 × Int32 × Int32 × (Nat → Int32) × Int32 × Int32 × Int32 × Int32 × (Nat → Int32) × (Nat → Int32) × (Nat → Int32) × (Nat → Int32) × (Nat → Int32) × Int64 × Int64 × (Nat → Int64) × (Nat → Int64) × (Nat → Int32) × (Nat → Int64) × (Nat → Int64) × (Nat → Int32)) {i : Nat} (hV : VF f) (hC : CF f cT_present_kind cT_present_above cT_present_edge cT_present_pool cT_present_store cT_present_spot vT_present_basins vT_present_spring vT_present_hour vT_present_z) (hi : i < f.n) (a1 : s0.1 = nI f.n) (a2 : okS f (2 * i) s0.2.1 s0.2.2.1) (a3 : s0.2.2.2.2.1 = nI i) (a4 : s0.2.2.2.2.2.1 = 0) : ∃ s1 : Int32 × Int64 × Int64 × Int32 × Int32 × (Nat → Int32) × Int32 × Int32 × Int32 × Int32 × (Nat → Int32) × (Nat → Int32) × (Nat → Int32) × (Nat → Int32) × (Nat → Int32) × Int64 × Int64 × (Nat → Int64) × (Nat → Int64) × (Nat → Int32) × (Nat → Int64) × (Nat → Int64) × (Nat → Int32), (s1.1 = nI f.n ∧ okS f (2 * (i + 1)) s1.2.1 s1.2.2.1 ∧ s1.2.2.2.1 = s0.2.2.2.1 ∧ s1.2.2.2.2.1 = nI (i + 1)) ∧ f_L_areShares_L58 vT_present_basins vT_present_spring vT_present_hour vT_present_z cT_present_edge cT_present_pool vT_tape_size cT_present_spot cT_present_kind cT_present_above cT_present_store rc17 FU s0 = rc17 s1
  := by
  have hn : f.n ≤ 10 := hV.1
  have hG := VG_of hV
  unfold f_L_areShares_L58
  obtain ⟨y6, hy6⟩ : ∃ y6, y6 = s0.2.2.2.1 := ⟨_, rfl⟩
  rw [← hy6]
  refine lp_in 2 (fun k s => s.1 = nI f.n ∧ okS f (2 * i + k) s.2.1 s.2.2.1 ∧ s.2.2.2.1 = y6 ∧ s.2.2.2.2.1 = nI i ∧ s.2.2.2.2.2.1 = nI k) ⟨a1, a2, hy6.symm, a3, a4⟩ (FU_gt (by decide)) ?_
  clear a1 a2 a3 a4 hy6 s0
  rintro k s hk ⟨a1, a2, a3, a4, a5⟩ rc
  rw [a1, a3, a4, a5]
  unfold f_L_areShares_L58_b
  by_cases h2 : k = 2
  · left
    subst h2
    rw [br_t1 (by decide)]
    refine ⟨_, ?_, rfl⟩
    exact ⟨rfl, a2, rfl, nI_1 i⟩
  · right
    refine ⟨by omega, ?_⟩
    rw [br_f1 (show ¬ (2 : Int32) ≤ nI k from nI_ge (b := 2) (by omega) (by decide))]
    by_cases h0 : k = 0
    · subst h0
      rw [br_t1 (show nI 0 = (0 : Int32) from rfl)]
      obtain ⟨u1, h11, h12⟩ := S_share (b := i) (w := 0) hV hC hi (by decide)
      rw [bd_t (show f_X7_share (nI i) (0 : Int32) _ _ _ _ _ _ _ _ _ _ _ _ _ = _ from h11)]
      unfold f_L_areShares_J86
      rw [br_t1 (show nI 0 = (0 : Int32) from rfl)]
      obtain ⟨u2, h21, h22⟩ := S_share (b := i) (w := 1) hV hC hi (by decide)
      rw [bd_t (show f_X7_share (nI i) (1 : Int32) _ _ _ _ _ _ _ _ _ _ _ _ _ = _ from h21)]
      obtain ⟨s1, ⟨q1, q2, q3, q4, q5⟩, e⟩ := j110 (f := f) (t := 2 * i + 0) (k := 0) (o := f.keptF i) a2 (seqF_0 f i) (fun r hr => seq_ok hG (t := 2 * i) (by omega) ((seqF_0 f i).trans hr)) h12 h22 (by omega) rfl
      exact ⟨s1, ⟨q1, q2, q3, q4, q5⟩, e⟩
    · have h1 : k = 1 := by omega
      subst h1
      rw [br_f1 (by decide)]
      obtain ⟨u1, h11, h12⟩ := S_rest (b := i) (w := 0) hV hC hi (by decide)
      rw [bd_t (show f_X7_rest (nI i) (0 : Int32) _ _ _ _ _ _ _ _ _ _ _ _ _ = _ from h11)]
      unfold f_L_areShares_J86
      rw [br_f1 (by decide)]
      obtain ⟨u2, h21, h22⟩ := S_rest (b := i) (w := 1) hV hC hi (by decide)
      rw [bd_t (show f_X7_rest (nI i) (1 : Int32) _ _ _ _ _ _ _ _ _ _ _ _ _ = _ from h21)]
      obtain ⟨s1, ⟨q1, q2, q3, q4, q5⟩, e⟩ := j110 (f := f) (t := 2 * i + 1) (k := 1) (o := f.restF i) a2 (seqF_1 f i) (fun r hr => seq_ok hG (t := 2 * i + 1) (by omega) ((seqF_1 f i).trans hr)) h12 h22 (by omega) rfl
      exact ⟨s1, ⟨q1, q2, q3, q4, q5⟩, e⟩
theorem ex_imp {σ α : Type} {P Q : σ → Prop} {x : Option α} {rc : σ → Option α} (h : ∃ s, P s ∧ x = rc s) (k : ∀ s, P s → Q s) : ∃ s, Q s ∧ x = rc s := by
  obtain ⟨s, h1, h2⟩ := h
  exact ⟨s, k s h1, h2⟩
def lkQ (f : Fo) (i : Nat) (y : Int32) : Prop := (y = 0 ∧ ∀ b, b < i → f.kd b ≠ 2 ∧ f.kd b ≠ 4) ∨ y = 1
theorem lkQ_or {f : Fo} {i : Nat} {y : Int32} (h : lkQ f i y) : y ||| 1 = 1 ∧ y ||| 0 = y := by
  rcases h with ⟨h, -⟩ | h <;> rw [h] <;> decide
theorem P_areShares {f : Fo} {vT_present_basins : Int32} {vT_present_spring : Int32} {vT_present_hour : Int32} {vT_present_z : Int32} {cT_present_edge : Nat → Int32} {cT_present_pool : Nat → Int32} {vT_tape_size : Int32} {cT_present_spot : Nat → Int32} {cT_told : Nat → Int32} {cT_present_kind : Nat → Int32} {cT_present_above : Nat → Int32} {cT_present_store : Nat → Int32} {vT_flow_kept : Int32} {vT_flow_leaked : Int32} {vT_flow_ranOff : Int32} {vT_flow_uneven : Int32} {cT_flow_width : Nat → Int32} {cT_flow_goesOn : Nat → Int32} {cT_flow_comes : Nat → Int32} {cT_flow_keeps : Nat → Int32} {cT_flow_holds : Nat → Int32} {vT_shares_top : Int64} {vT_shares_bottom : Int64} {cT_shares_onTop : Nat → Int64} {cT_shares_onBottom : Nat → Int64} {cT_shares_onFits : Nat → Int32} {cT_shares_keptTop : Nat → Int64} {cT_shares_keptBottom : Nat → Int64} {cT_shares_keptFits : Nat → Int32} (hV : VF f) (hC : CF f cT_present_kind cT_present_above cT_present_edge cT_present_pool cT_present_store cT_present_spot vT_present_basins vT_present_spring vT_present_hour vT_present_z) : ∃ u : Int32 × (Nat → Int32) × Int32 × Int32 × Int32 × Int32 × (Nat → Int32) × (Nat → Int32) × (Nat → Int32) × (Nat → Int32) × (Nat → Int32) × Int64 × Int64 × (Nat → Int64) × (Nat → Int64) × (Nat → Int32) × (Nat → Int64) × (Nat → Int64) × (Nat → Int32), f_L_areShares  vT_present_basins vT_present_spring vT_present_hour vT_present_z cT_present_edge cT_present_pool vT_tape_size cT_present_spot cT_told cT_present_kind cT_present_above cT_present_store vT_flow_kept vT_flow_leaked vT_flow_ranOff vT_flow_uneven cT_flow_width cT_flow_goesOn cT_flow_comes cT_flow_keeps cT_flow_holds vT_shares_top vT_shares_bottom cT_shares_onTop cT_shares_onBottom cT_shares_onFits cT_shares_keptTop cT_shares_keptBottom cT_shares_keptFits = some u ∧ (u.1 = 1)
  := by
  have hn : f.n ≤ 10 := hV.1
  have hG := VG_of hV
  unfold f_L_areShares
  refine bd_ex _ (S_count1 hV hC) (fun u1 h1 => ?_)
  unfold f_L_areShares_L17
  refine lp_go3 f.n (fun i s => s.1 = nI f.n ∧ okS f (2 * i) s.2.1 s.2.2.1 ∧ lkQ f i s.2.2.2.1 ∧ s.2.2.2.2.1 = nI i) ⟨h1, ⟨0, 1, rfl, rfl, Or.inr ⟨by decide, by decide, by decide, fun s hs => absurd hs (Nat.not_lt_zero s), (show ((0 : Nat) : Rat) / ((1 : Nat) : Rat) = (0 : Rat) by decide +kernel)⟩⟩, Or.inl ⟨rfl, fun b hb => absurd hb (Nat.not_lt_zero b)⟩, rfl⟩ (FU_gt (by omega)) ?_
  clear h1
  rintro i s hi ⟨a1, a2, a3, a4⟩ rc
  rw [a1, a4]
  unfold f_L_areShares_L17_b
  by_cases hx : i = f.n
  · left
    subst hx
    rw [br_t1 (nI_le (Nat.le_refl _) (by omega))]
    unfold f_L_areShares_J290
    by_cases h0 : f.n = 0
    · rw [br_t1 (by rw [h0]; rfl)]
      exact ⟨_, rfl, rfl⟩
    rw [br_f1 (nI_ne 0 0 h0)]
    obtain ⟨up, dn, e1, e2, hd⟩ := a2
    rw [e1, e2]
    rcases hd with rfl | ⟨d1, d2, d3, d4, d5⟩
    · rw [br_t1 (show lg_cmp (lN 0) (0 : Int64) = 0 from (lgc_eq _ _).mpr rfl)]
      exact ⟨_, rfl, rfl⟩
    have hu : up < 2 ^ 63 := by
      have := Nat.mul_le_mul (show 2 * f.n ≤ 20 by omega) d2
      omega
    have bd2 : dn < 2 ^ 63 := by omega
    have c6 : ¬ lg_cmp (lN dn) (0 : Int64) = 0 := fun q => by
      have := ((lgc_N (b := 0) bd2 (by decide)).2.2).mp q
      omega
    rw [br_f1 c6]
    rw [seq_sum] at d5
    have hq := nz_q d1
    have hup : (up : Rat) = (up : Rat) / (dn : Rat) * (dn : Rat) := (Rat.div_mul_cancel hq).symm
    rcases a3 with ⟨h6, hl⟩ | h6
    · rw [h6, br_t1 rfl]
      rw [all_1 hG (seq_all d4) h0 hl] at d5
      rw [d5, Rat.one_mul] at hup
      rw [br_t1 ((lgc_eq _ _).mpr (by rw [Rat.natCast_inj.mp hup]))]
      exact ⟨_, rfl, rfl⟩
    · rw [h6, br_f1 (by decide)]
      have hle := all_le hG (seq_all d4) h0
      rw [← d5] at hle
      have h7 := Rat.mul_le_mul_of_nonneg_right hle (c := (dn : Rat)) Rat.natCast_nonneg
      rw [← hup, Rat.one_mul] at h7
      have h8 := Rat.natCast_le_natCast.mp h7
      rw [br_f1 (fun q => by have := ((lgc_N hu bd2).1).mp q; omega)]
      exact ⟨_, rfl, rfl⟩
  · right
    have hi' : i < f.n := by omega
    refine ⟨hi', ?_⟩
    obtain ⟨o1, o2⟩ := lkQ_or a3
    have hkd := (hV.2.1 i hi').1
    rw [br_f1 (nI_ge hi' (by omega)), o1, o2]
    obtain ⟨u2, h21, h22⟩ := S_of0 (b := i) hV hC hi'
    rw [bd_t h21, h22]
    by_cases k2 : f.kd i = 2
    · rw [br_t1 (by rw [k2]; rfl), nm_q]
      refine ex_imp (l58 (f := f) (i := i) (rc17 := rc) _ hV hC hi' ?_ ?_ ?_ ?_) (fun s1 q => ⟨q.1, q.2.1, Or.inr q.2.2.1, q.2.2.2⟩)
      · rfl
      · exact a2
      · rfl
      · rfl
    · rw [br_f1 (nI_ne 2 2 k2)]
      obtain ⟨u3, h31, h32⟩ := S_of0 (b := i) hV hC hi'
      rw [bd_t h31, h32]
      by_cases k4 : f.kd i = 4
      · rw [br_t1 (by rw [k4]; rfl), nm_q]
        refine ex_imp (l58 (f := f) (i := i) (rc17 := rc) _ hV hC hi' ?_ ?_ ?_ ?_) (fun s1 q => ⟨q.1, q.2.1, Or.inr q.2.2.1, q.2.2.2⟩)
        · rfl
        · exact a2
        · rfl
        · rfl
      · rw [br_f1 (nI_ne 4 4 k4), nm_q]
        have a5 : lkQ f (i + 1) s.2.2.2.1 := by
          rcases a3 with ⟨h6, hl⟩ | h6
          · refine Or.inl ⟨h6, fun b hb => ?_⟩
            by_cases e : b = i
            · rw [e]; exact ⟨k2, k4⟩
            · exact hl b (by omega)
          · exact Or.inr h6
        refine ex_imp (l58 (f := f) (i := i) (rc17 := rc) _ hV hC hi' ?_ ?_ ?_ ?_) (fun s1 q => ⟨q.1, q.2.1, q.2.2.1.symm ▸ a5, q.2.2.2⟩)
        · rfl
        · exact a2
        · rfl
        · rfl
theorem P_q {f : Fo} {vT_pictured : Int32} {vT_present_basins : Int32} {vT_present_spring : Int32} {vT_present_hour : Int32} {vT_present_z : Int32} {cT_present_kind : Nat → Int32} {cT_present_above : Nat → Int32} {cT_present_edge : Nat → Int32} {cT_present_pool : Nat → Int32} {cT_present_store : Nat → Int32} {cT_present_spot : Nat → Int32} {vT_picture_basins : Int32} {vT_picture_spring : Int32} {vT_picture_hour : Int32} {vT_picture_z : Int32} {cT_picture_kind : Nat → Int32} {cT_picture_above : Nat → Int32} {cT_picture_edge : Nat → Int32} {cT_picture_pool : Nat → Int32} {cT_picture_store : Nat → Int32} {cT_picture_spot : Nat → Int32} {vT_flow_kept : Int32} {vT_flow_leaked : Int32} {vT_flow_ranOff : Int32} {vT_flow_uneven : Int32} {vT_flow_keptInAll : Int32} {vT_flow_leakedInAll : Int32} {vT_flow_ranOffInAll : Int32} {cT_flow_comes : Nat → Int32} {cT_flow_keeps : Nat → Int32} {cT_flow_holds : Nat → Int32} {cT_flow_goesOn : Nat → Int32} {cT_flow_width : Nat → Int32} {vT_shares_top : Int64} {vT_shares_bottom : Int64} {cT_shares_keptTop : Nat → Int64} {cT_shares_keptBottom : Nat → Int64} {cT_shares_keptFits : Nat → Int32} {cT_shares_onTop : Nat → Int64} {cT_shares_onBottom : Nat → Int64} {cT_shares_onFits : Nat → Int32} {vT_tape_size : Int32} {cT_told : Nat → Int32} {x3 x4 : Int32} (hV : VF f) (hC : CF f cT_present_kind cT_present_above cT_present_edge cT_present_pool cT_present_store cT_present_spot vT_present_basins vT_present_spring vT_present_hour vT_present_z) (hl : f.hr + 1 ≤ 9999) : ∃ u : Int32 × Int32 × Int32 × Int32 × Int32 × (Nat → Int32) × (Nat → Int32) × (Nat → Int32) × (Nat → Int32) × (Nat → Int32) × (Nat → Int32) × Int32 × Int32 × Int32 × Int32 × (Nat → Int32) × (Nat → Int32) × (Nat → Int32) × (Nat → Int32) × (Nat → Int32) × (Nat → Int32) × Int32 × Int32 × Int32 × Int32 × Int32 × Int32 × Int32 × (Nat → Int32) × (Nat → Int32) × (Nat → Int32) × (Nat → Int32) × (Nat → Int32) × Int64 × Int64 × (Nat → Int64) × (Nat → Int64) × (Nat → Int32) × (Nat → Int64) × (Nat → Int64) × (Nat → Int32) × (Nat → Int32), f_L_q x3 x4 vT_pictured vT_present_basins vT_present_spring vT_present_hour vT_present_z cT_present_kind cT_present_above cT_present_edge cT_present_pool cT_present_store cT_present_spot vT_picture_basins vT_picture_spring vT_picture_hour vT_picture_z cT_picture_kind cT_picture_above cT_picture_edge cT_picture_pool cT_picture_store cT_picture_spot vT_flow_kept vT_flow_leaked vT_flow_ranOff vT_flow_uneven vT_flow_keptInAll vT_flow_leakedInAll vT_flow_ranOffInAll cT_flow_comes cT_flow_keeps cT_flow_holds cT_flow_goesOn cT_flow_width vT_shares_top vT_shares_bottom cT_shares_keptTop cT_shares_keptBottom cT_shares_keptFits cT_shares_onTop cT_shares_onBottom cT_shares_onFits vT_tape_size cT_told = some u ∧ (CF (f) u.2.2.2.2.2.1 u.2.2.2.2.2.2.1 u.2.2.2.2.2.2.2.1 u.2.2.2.2.2.2.2.2.1 u.2.2.2.2.2.2.2.2.2.1 u.2.2.2.2.2.2.2.2.2.2.1 u.2.1 u.2.2.1 u.2.2.2.1 u.2.2.2.2.1)
  := by
  unfold f_L_q
  refine bd_ex _ (P_isSound hV hC hl) (fun u1 h1 => ?_)
  obtain ⟨h11, h12⟩ := h1
  rw [br_f1 (by rw [h11]; decide)]
  refine bd_ex _ (P_areShares hV h12) (fun u2 h2 => ?_)
  rw [br_f1 (by rw [h2]; decide)]
  exact ⟨_, rfl, h12⟩
