/-! ===== the law's pieces with the array; chips ===== -/
theorem P_j {f : Fo} {vT_present_basins : Int32} {vT_present_spring : Int32} {vT_present_hour : Int32} {vT_present_z : Int32} {cT_present_kind : Nat → Int32} {cT_present_above : Nat → Int32} {cT_present_edge : Nat → Int32} {cT_present_pool : Nat → Int32} {cT_present_store : Nat → Int32} {cT_present_spot : Nat → Int32} {vT_trial_basins : Int32} {vT_trial_spring : Int32} {vT_trial_hour : Int32} {vT_trial_z : Int32} {cT_trial_kind : Nat → Int32} {cT_trial_above : Nat → Int32} {cT_trial_edge : Nat → Int32} {cT_trial_pool : Nat → Int32} {cT_trial_store : Nat → Int32} {cT_trial_spot : Nat → Int32} {vT_flow_kept : Int32} {vT_flow_leaked : Int32} {vT_flow_ranOff : Int32} {vT_flow_uneven : Int32} {vT_flow_keptInAll : Int32} {vT_flow_leakedInAll : Int32} {vT_flow_ranOffInAll : Int32} {cT_flow_comes : Nat → Int32} {cT_flow_keeps : Nat → Int32} {cT_flow_holds : Nat → Int32} {cT_flow_goesOn : Nat → Int32} {cT_flow_width : Nat → Int32} {cT_told : Nat → Int32} {cV : Nat → Int32} {x4 x5 x6 x10 x11 x18 : Int32} {h b : Nat} (hV : VF f) (hC : CF f cT_present_kind cT_present_above cT_present_edge cT_present_pool cT_present_store cT_present_spot vT_present_basins vT_present_spring vT_present_hour vT_present_z) (hb : b < f.n) (hh1 : 1 ≤ h) (hh5 : h ≤ 5) (hl : f.hr + h ≤ 9999) : ∃ u : (Nat → Int32) × (Nat → Int32) × (Nat → Int32) × (Nat → Int32) × Int32 × Int32 × Int32 × Int32 × (Nat → Int32) × (Nat → Int32) × (Nat → Int32) × (Nat → Int32) × (Nat → Int32) × (Nat → Int32) × Int32 × Int32 × Int32 × Int32 × Int32 × Int32 × Int32 × (Nat → Int32) × (Nat → Int32) × (Nat → Int32) × (Nat → Int32) × (Nat → Int32) × (Nat → Int32) × (Nat → Int32), f_L_j f.n (nI f.n) x4 x5 x6 (nI h) (nI b) x10 x11 x18 vT_present_basins vT_present_spring vT_present_hour vT_present_z cT_present_kind cT_present_above cT_present_edge cT_present_pool cT_present_store cT_present_spot vT_trial_basins vT_trial_spring vT_trial_hour vT_trial_z cT_trial_kind cT_trial_above cT_trial_edge cT_trial_pool cT_trial_store cT_trial_spot vT_flow_kept vT_flow_leaked vT_flow_ranOff vT_flow_uneven vT_flow_keptInAll vT_flow_leakedInAll vT_flow_ranOffInAll cT_flow_comes cT_flow_keeps cT_flow_holds cT_flow_goesOn cT_flow_width cT_told cV = some u ∧ ((∀ q, q < f.n → u.2.2.2.2.2.2.2.2.2.2.2.2.2.2.2.2.2.2.2.2.2.2.2.2.2.2.2 q = nI (f.gt h q)) ∧ CF (f.setKd b 1) u.1 cT_present_above u.2.1 u.2.2.1 u.2.2.2.1 cT_present_spot vT_present_basins vT_present_spring vT_present_hour vT_present_z)
  := by
  have hn : f.n ≤ 10 := hV.1
  unfold f_L_j f_L_j_L642
  refine lp_go3 f.n (fun i s => s.1 = nI i ∧ CF (f) s.2.1 cT_present_above s.2.2.1 s.2.2.2.1 s.2.2.2.2.1 cT_present_spot vT_present_basins vT_present_spring vT_present_hour vT_present_z ∧ ∀ q, q < i → s.2.2.2.2.2.2.2.2.2.2.2.2.2.2.2.2.2.2.2.2.2.2.2.2.2.2.2.2 q = nI (f.gt h q)) ⟨rfl, hC, fun q hq => absurd hq (Nat.not_lt_zero q)⟩ (FU_gt (by omega)) ?_
  rintro i s hi ⟨a1, a2, a3⟩ rc
  rw [a1]
  unfold f_L_j_L642_b
  by_cases hx : i = f.n
  · left
    subst hx
    rw [br_t1 (nI_le (Nat.le_refl _) (by omega))]
    unfold f_L_j_J669
    refine bd_ex _ (S_chg0 (w := 1) hV a2 hb (by decide)) (fun u1 h1 => ?_)
    obtain ⟨h11, h12⟩ := h1
    rw [br_t1 (by rw [h11]; exact n0_le _ (by have := (hV.2.1 b hb).1; omega))]
    exact ⟨_, rfl, a3, h12⟩
  · right
    have hi' : i < f.n := by omega
    refine ⟨hi', ?_⟩
    rw [br_f1 (nI_ge hi' (by omega)), n3_add]
    obtain ⟨u2, h21, h22⟩ := S_ahead (k := h) (b := i) hV a2 (by omega) hl hi'
    rw [bd_t h21, h22, gd_t (vp_in_nI hi' (by omega)), nI_clamp (by omega)]
    refine ⟨_, ?_, rfl⟩
    refine ⟨nI_1 i, a2, fun q hq => ?_⟩
    by_cases e : q = i
    · rw [e]; exact pk_us
    · exact (pk_un e).trans (a3 q (by omega))
theorem P_k {f : Fo} {vT_pictured : Int32} {vT_present_basins : Int32} {vT_present_spring : Int32} {vT_present_hour : Int32} {vT_present_z : Int32} {cT_present_kind : Nat → Int32} {cT_present_above : Nat → Int32} {cT_present_edge : Nat → Int32} {cT_present_pool : Nat → Int32} {cT_present_store : Nat → Int32} {cT_present_spot : Nat → Int32} {vT_picture_basins : Int32} {vT_picture_spring : Int32} {vT_picture_hour : Int32} {vT_picture_z : Int32} {cT_picture_kind : Nat → Int32} {cT_picture_above : Nat → Int32} {cT_picture_edge : Nat → Int32} {cT_picture_pool : Nat → Int32} {cT_picture_store : Nat → Int32} {cT_picture_spot : Nat → Int32} {vT_trial_basins : Int32} {vT_trial_spring : Int32} {vT_trial_hour : Int32} {vT_trial_z : Int32} {cT_trial_kind : Nat → Int32} {cT_trial_above : Nat → Int32} {cT_trial_edge : Nat → Int32} {cT_trial_pool : Nat → Int32} {cT_trial_store : Nat → Int32} {cT_trial_spot : Nat → Int32} {vT_flow_kept : Int32} {vT_flow_leaked : Int32} {vT_flow_ranOff : Int32} {vT_flow_uneven : Int32} {vT_flow_keptInAll : Int32} {vT_flow_leakedInAll : Int32} {vT_flow_ranOffInAll : Int32} {cT_flow_comes : Nat → Int32} {cT_flow_keeps : Nat → Int32} {cT_flow_holds : Nat → Int32} {cT_flow_goesOn : Nat → Int32} {cT_flow_width : Nat → Int32} {cT_told : Nat → Int32} {cV : Nat → Int32} {x4 x5 x6 x10 x11 : Int32} {h b : Nat} (hV : VF f) (hC : CF (f.setKd b 1) cT_present_kind cT_present_above cT_present_edge cT_present_pool cT_present_store cT_present_spot vT_present_basins vT_present_spring vT_present_hour vT_present_z) (hp1 : vT_pictured = 1) (hCp : CF f cT_picture_kind cT_picture_above cT_picture_edge cT_picture_pool cT_picture_store cT_picture_spot vT_picture_basins vT_picture_spring vT_picture_hour vT_picture_z) (hcV : ∀ q, q < f.n → cV q = nI (f.gt h q)) (hb : b < f.n) (hh1 : 1 ≤ h) (hh5 : h ≤ 5) (hl : f.hr + h ≤ 9999) : ∃ u : Int32 × Int32 × Int32 × Int32 × (Nat → Int32) × (Nat → Int32) × (Nat → Int32) × (Nat → Int32) × (Nat → Int32) × (Nat → Int32) × Int32 × Int32 × Int32 × Int32 × (Nat → Int32) × (Nat → Int32) × (Nat → Int32) × (Nat → Int32) × (Nat → Int32) × (Nat → Int32) × Int32 × Int32 × Int32 × Int32 × Int32 × Int32 × Int32 × (Nat → Int32) × (Nat → Int32) × (Nat → Int32) × (Nat → Int32) × (Nat → Int32) × (Nat → Int32), f_L_k f.n (nI f.n) x4 x5 x6 (nI h) (nI b) x10 x11 (setI (fun o => ¬ nI (f.gt h o) ≤ nI ((f.setKd b 1).gt h o)) f.n) vT_pictured vT_present_basins vT_present_spring vT_present_hour vT_present_z cT_present_kind cT_present_above cT_present_edge cT_present_pool cT_present_store cT_present_spot vT_picture_basins vT_picture_spring vT_picture_hour vT_picture_z cT_picture_kind cT_picture_above cT_picture_edge cT_picture_pool cT_picture_store cT_picture_spot vT_trial_basins vT_trial_spring vT_trial_hour vT_trial_z cT_trial_kind cT_trial_above cT_trial_edge cT_trial_pool cT_trial_store cT_trial_spot vT_flow_kept vT_flow_leaked vT_flow_ranOff vT_flow_uneven vT_flow_keptInAll vT_flow_leakedInAll vT_flow_ranOffInAll cT_flow_comes cT_flow_keeps cT_flow_holds cT_flow_goesOn cT_flow_width cT_told cV = some u ∧ (CF (f) u.2.2.2.2.1 u.2.2.2.2.2.1 u.2.2.2.2.2.2.1 u.2.2.2.2.2.2.2.1 u.2.2.2.2.2.2.2.2.1 u.2.2.2.2.2.2.2.2.2.1 u.1 u.2.1 u.2.2.1 u.2.2.2.1)
  := by
  have hn : f.n ≤ 10 := hV.1
  have hV1 : VF (f.setKd b 1) := VF_Kd hV b (by decide)
  unfold f_L_k f_L_k_L685
  refine lp_go3 f.n (fun i s => s.1 = nI i ∧ CF (f.setKd b 1) s.2.2.2.2.2.1 s.2.2.2.2.2.2.1 s.2.2.2.2.2.2.2.1 s.2.2.2.2.2.2.2.2.1 s.2.2.2.2.2.2.2.2.2.1 s.2.2.2.2.2.2.2.2.2.2.1 s.2.1 s.2.2.1 s.2.2.2.1 s.2.2.2.2.1) ⟨rfl, hC⟩ (FU_gt (by omega)) ?_
  rintro i s hi ⟨a1, a2⟩ rc
  rw [a1]
  unfold f_L_k_L685_b
  by_cases hx : i = f.n
  · left
    subst hx
    rw [br_t1 (nI_le (Nat.le_refl _) (by omega))]
    unfold f_L_k_J741
    refine bd_ex _ (S_undo hp1 hV hCp) (fun u1 h1 => ?_)
    obtain ⟨h11, h12⟩ := h1
    rw [br_t1 (by rw [h11]; exact n0_le _ (by have := hV.2.2.2.1; omega))]
    exact ⟨_, rfl, h12⟩
  · right
    have hi' : i < f.n := by omega
    refine ⟨hi', ?_⟩
    rw [br_f1 (nI_ge hi' (by omega)), n3_add]
    obtain ⟨u2, h21, h22⟩ := S_ahead (k := h) (b := i) hV1 a2 (by omega) hl hi'
    have hbit := shr_bit (setI (fun o => ¬ nI (f.gt h o) ≤ nI ((f.setKd b 1).gt h o)) f.n) (k := i) (by omega)
    have hset := tb_setI (P := fun o => ¬ nI (f.gt h o) ≤ nI ((f.setKd b 1).gt h o)) f.n hn i (by omega)
    rw [bd_t h21, h22, gd_t (vp_in_nI hi' (by omega)), nI_clamp (by omega), hcV i hi']
    unfold f_L_k_J714
    rw [hbit]
    by_cases q : nI (f.gt h i) ≤ nI ((f.setKd b 1).gt h i)
    · rw [br_t1 q, if_neg (fun z => (hset.mp z).2 q), br_f1 (by decide), br_t1 rfl]
      refine ⟨_, ?_, rfl⟩
      exact ⟨nI_1 i, a2⟩
    · rw [br_f1 q, if_pos (hset.mpr ⟨hi', q⟩), br_t1 rfl, br_t1 rfl]
      refine ⟨_, ?_, rfl⟩
      exact ⟨nI_1 i, a2⟩
theorem when_iff {st : Int32} {g : Nat} (hx : rg 1 99999 (st + 40)) (hg : g ≤ 20000000) : st + 40 ≤ st + nI g ↔ 40 ≤ g := by
  obtain ⟨m, h1, h2, e⟩ := hx
  have e2 : st = nI m - nI 40 := by rw [← e, show (40 : Int32) = nI 40 from rfl, Int32.add_sub_cancel]
  have e3 : (nI m - nI 40).toInt = (m : Int) - 40 := pk_sub_toInt (a := m) (b := 40) (by omega) (by decide)
  have e4 : (st + nI g).toInt = (m : Int) - 40 + g := by
    rw [e2, Int32.toInt_add, e3, nI_toInt (by omega)]
    rw [Int.bmod_eq_of_le (by omega) (by omega)]
  rw [Int32.le_iff_toInt_le, e, nI_toInt (by omega), e4]
  omega
theorem P_l {f : Fo} {vT_present_basins : Int32} {vT_present_spring : Int32} {vT_present_hour : Int32} {vT_present_z : Int32} {cT_present_kind : Nat → Int32} {cT_present_above : Nat → Int32} {cT_present_edge : Nat → Int32} {cT_present_pool : Nat → Int32} {cT_present_store : Nat → Int32} {cT_present_spot : Nat → Int32} {vT_trial_basins : Int32} {vT_trial_spring : Int32} {vT_trial_hour : Int32} {vT_trial_z : Int32} {cT_trial_kind : Nat → Int32} {cT_trial_above : Nat → Int32} {cT_trial_edge : Nat → Int32} {cT_trial_pool : Nat → Int32} {cT_trial_store : Nat → Int32} {cT_trial_spot : Nat → Int32} {vT_flow_kept : Int32} {vT_flow_leaked : Int32} {vT_flow_ranOff : Int32} {vT_flow_uneven : Int32} {vT_flow_keptInAll : Int32} {vT_flow_leakedInAll : Int32} {vT_flow_ranOffInAll : Int32} {cT_flow_comes : Nat → Int32} {cT_flow_keeps : Nat → Int32} {cT_flow_holds : Nat → Int32} {cT_flow_goesOn : Nat → Int32} {cT_flow_width : Nat → Int32} {cT_told : Nat → Int32} {x3 x4 x5 x6 x7 x10 : Int32} {lV b : Nat} (hV : VF f) (hC : CF f cT_present_kind cT_present_above cT_present_edge cT_present_pool cT_present_store cT_present_spot vT_present_basins vT_present_spring vT_present_hour vT_present_z) (hb : b < f.n) (hl : f.hr + 100 ≤ 9999) : ∃ u : Int32 × Int32 × Int32 × Int32 × (Nat → Int32) × (Nat → Int32) × (Nat → Int32) × (Nat → Int32) × (Nat → Int32) × (Nat → Int32) × Int32 × Int32 × Int32 × Int32 × Int32 × Int32 × Int32 × (Nat → Int32) × (Nat → Int32) × (Nat → Int32) × (Nat → Int32) × (Nat → Int32) × (Nat → Int32), f_L_l lV x3 x4 x5 x6 x7 (nI b) x10 (f.st b) vT_present_basins vT_present_spring vT_present_hour vT_present_z cT_present_kind cT_present_above cT_present_edge cT_present_pool cT_present_store cT_present_spot vT_trial_basins vT_trial_spring vT_trial_hour vT_trial_z cT_trial_kind cT_trial_above cT_trial_edge cT_trial_pool cT_trial_store cT_trial_spot vT_flow_kept vT_flow_leaked vT_flow_ranOff vT_flow_uneven vT_flow_keptInAll vT_flow_leakedInAll vT_flow_ranOffInAll cT_flow_comes cT_flow_keeps cT_flow_holds cT_flow_goesOn cT_flow_width cT_told = some u ∧ (True)
  := by
  have hn : f.n ≤ 10 := hV.1
  have hG := VG_of hV
  unfold f_L_l
  refine bd_ex _ (S_when hV hC hb hl) (fun u1 h1 => ?_)
  rw [n3_add]
  have hst : ∀ j, (f.it j).st b = f.st b + nI (f.gt j b) := fun j => it_st f b j
  have hgl : ∀ j, j ≤ 100 → f.gt j b ≤ 20000000 := fun j hj => by
    have := gt_le hG j hb
    have := Nat.mul_le_mul_right 99999 hj
    omega
  have h40 : ∀ j, j ≤ 100 → (nI (f.gt j b) < (40 : Int32) ↔ f.gt j b < 40) := fun j hj => nI_ltI (b := 40) (by have := hgl j hj; omega) (by decide)
  rcases h1 with ⟨i, hi, h1, h2, h3, hw⟩ | ⟨h1, h2, hw⟩ | h1
  · rw [h1, br_f1 (n0_nlt i (by omega))]
    rw [hst i, when_iff hw (hgl i hi)] at h2
    refine bd_ex _ (S_ahead hV hC (by omega) (by omega) hb) (fun u2 h22 => ?_)
    rw [br_f1 (by rw [h22, h40 i hi]; omega)]
    by_cases h0 : i = 0
    · rw [br_t1 (show nI i ≤ 0 by rw [h0]; decide)]
      unfold f_L_l_J805
      rw [br_f1 (by rw [h0]; decide)]
      exact ⟨_, rfl, trivial⟩
    · rw [br_f1 (nI_nle (by omega) (by omega)), show nI i - (1 : Int32) = nI (i - 1) from pk_sub (b := 1) (by omega)]
      have h4 := h3 (i - 1) (by omega)
      rw [hst (i - 1), when_iff hw (hgl (i - 1) (by omega))] at h4
      refine bd_ex _ (S_ahead hV hC (by omega) (by omega) hb) (fun u3 h33 => ?_)
      rw [br_f1 (by rw [h33]; exact nI_ge (b := 40) (by omega) (by decide))]
      unfold f_L_l_J805
      rw [br_f1 (fun z => n0_nlt i (by omega) (by rw [z]; decide))]
      exact ⟨_, rfl, trivial⟩
  · rw [h1, br_t1 (by decide)]
    unfold f_L_l_J805
    have h4 := h2 100 (by omega)
    rw [hst 100, when_iff hw (hgl 100 (by omega))] at h4
    rw [br_t1 rfl, n3_add]
    refine bd_ex _ (S_ahead (k := 100) hV hC (by omega) (by omega) hb) (fun u2 h22 => ?_)
    rw [br_t1 (by rw [h22, h40 100 (by omega)]; omega)]
    exact ⟨_, rfl, trivial⟩
  · rw [h1, br_t1 (by decide)]
    unfold f_L_l_J805
    rw [br_f1 (by decide)]
    exact ⟨_, rfl, trivial⟩
theorem P_m {f : Fo} {vT_pictured : Int32} {vT_present_basins : Int32} {vT_present_spring : Int32} {cT_present_kind : Nat → Int32} {cT_present_above : Nat → Int32} {cT_present_edge : Nat → Int32} {cT_present_pool : Nat → Int32} {cT_present_store : Nat → Int32} {vT_flow_kept : Int32} {vT_flow_leaked : Int32} {vT_flow_ranOff : Int32} {vT_flow_uneven : Int32} {cT_flow_comes : Nat → Int32} {cT_flow_keeps : Nat → Int32} {cT_flow_holds : Nat → Int32} {cT_flow_goesOn : Nat → Int32} {cT_flow_width : Nat → Int32} {vT_sheets_bits : Nat → Int32} {vT_sheets_size : Nat → Int32} {cT_sheets_numbers : Nat → Nat → Int32} {cT_told : Nat → Int32} {cT_present_spot : Nat → Int32} {vT_present_hour : Int32} {vT_present_z : Int32} {x4 x5 x6 x7 x8 x10 : Int32} {lV : Nat} (hV : VF f) (hC : CF f cT_present_kind cT_present_above cT_present_edge cT_present_pool cT_present_store cT_present_spot vT_present_basins vT_present_spring vT_present_hour vT_present_z) : ∃ u : Int32 × Int32 × Int32 × Int32 × (Nat → Int32) × (Nat → Int32) × (Nat → Int32) × (Nat → Int32) × (Nat → Int32) × (Nat → Int32) × (Nat → Int32) × (Nat → Nat → Int32) × (Nat → Int32), f_L_m lV (nI f.n) x4 x5 x6 x7 x8 x10 vT_pictured vT_present_basins vT_present_spring cT_present_kind cT_present_above cT_present_edge cT_present_pool cT_present_store vT_flow_kept vT_flow_leaked vT_flow_ranOff vT_flow_uneven cT_flow_comes cT_flow_keeps cT_flow_holds cT_flow_goesOn cT_flow_width vT_sheets_bits vT_sheets_size cT_sheets_numbers cT_told = some u ∧ (u.2.2.2.2.2.2.2.2.2.1 0 = 32 ∧ u.2.2.2.2.2.2.2.2.2.2.1 0 = nI f.n ∧ ∀ q, q < f.n → u.2.2.2.2.2.2.2.2.2.2.2.1 0 q = nI (f.kp q))
  := by
  have hn : f.n ≤ 10 := hV.1
  unfold f_L_m
  refine bd_ex _ (S_sheet (n := f.n) (by omega)) (fun u1 h1 => ?_)
  obtain ⟨h11, h12, h13⟩ := h1
  rw [br_t1 h11]
  unfold f_L_m_L846
  refine lp_go3 f.n (fun i s => s.1 = nI i ∧ s.2.2.2.2.2.2.2.2.2.2.1 0 = 32 ∧ s.2.2.2.2.2.2.2.2.2.2.2.1 0 = nI f.n ∧ ∀ q, q < i → s.2.2.2.2.2.2.2.2.2.2.2.2.1 0 q = nI (f.kp q)) ⟨rfl, h12, h13, fun q hq => absurd hq (Nat.not_lt_zero q)⟩ (FU_gt (by omega)) ?_
  rintro i s hi ⟨a1, a2, a3, a4⟩ rc
  rw [a1]
  unfold f_L_m_L846_b
  by_cases hx : i = f.n
  · left
    subst hx
    rw [br_t1 (nI_le (Nat.le_refl _) (by omega))]
    exact ⟨_, rfl, a2, a3, a4⟩
  · right
    have hi' : i < f.n := by omega
    refine ⟨hi', ?_⟩
    rw [br_f1 (nI_ge hi' (by omega))]
    obtain ⟨u2, h21, h22⟩ := S_of6 (b := i) hV hC hi'
    rw [bd_t h21, h22]
    obtain ⟨u3, h31, h32, h33, h34⟩ := S_write (k := i) (v := nI (f.kp i)) a2 a3 (by omega) hi'
    rw [bd_t h31, br_t1 h32]
    refine ⟨_, ?_, rfl⟩
    refine ⟨nI_1 i, a2, a3, fun q hq => ?_⟩
    by_cases e : q = i
    · rw [e]; exact h33
    · exact (h34 q e).trans (a4 q (by omega))
/-- of the sets that explain: the first, what is in all, what is in any -/
theorem chS_spec {E : Nat → Prop} {l a : Int32} : ∀ N, ((chS E l a N).1 = 0 → (chS E l a N).2.2.1 = a) ∧ ((chS E l a N).1 ≠ 0 → ∃ m, m < N ∧ E m ∧ (chS E l a N).2.1 = nI m ∧ (∀ k, k < 32 → tb (chS E l a N).2.2.1 k = true → tb (nI m) k = true) ∧ (∀ k, k < 32 → tb (nI m) k = true → tb (chS E l a N).2.2.2 k = true) ∧ ((chS E l a N).1 = 1 → (chS E l a N).2.2.1 = a &&& nI m))
  | 0 => ⟨fun _ => rfl, fun h => absurd rfl h⟩
  | N + 1 => by
    obtain ⟨ih0, ih1⟩ := chS_spec (E := E) (l := l) (a := a) N
    by_cases hE : E N
    · rw [chS_t hE]
      refine ⟨fun h => absurd h (Nat.succ_ne_zero _), fun _ => ?_⟩
      by_cases h0 : (chS E l a N).1 = 0
      · refine ⟨N, by omega, hE, if_pos h0, fun k hk h => ?_, fun k hk h => ?_, fun _ => ?_⟩
        · rw [tb_and] at h
          simp only [Bool.and_eq_true] at h
          exact h.2
        · rw [tb_or, h, Bool.or_true]
        · rw [ih0 h0]
      · obtain ⟨m, m1, m2, m3, m4, m5, m6⟩ := ih1 h0
        refine ⟨m, by omega, m2, (if_neg h0).trans m3, fun k hk h => ?_, fun k hk h => ?_, fun h => ?_⟩
        · rw [tb_and] at h
          simp only [Bool.and_eq_true] at h
          exact m4 k hk h.1
        · rw [tb_or, m5 k hk h, Bool.true_or]
        · exact absurd (Nat.succ.inj h) h0
    · rw [chS_f hE]
      refine ⟨ih0, fun h => ?_⟩
      obtain ⟨m, m1, m2, m3, m4, m5, m6⟩ := ih1 h
      exact ⟨m, by omega, m2, m3, m4, m5, m6⟩
theorem and_not_0 {x y : Int32} (h : ∀ k, k < 32 → tb x k = true → tb y k = true) : x &&& (y ^^^ (-1 : Int32)) = 0 := by
  refine tb_ext (fun k hk => ?_)
  rw [tb_and, tb_xor, tb_m1 k hk, tb_0 k hk]
  cases hx : tb x k with
  | false => rfl
  | true => rw [h k hk hx]; rfl
theorem mask_n {n m : Nat} (hn : n ≤ 10) (hm : m < 2 ^ n) : (nI (2 ^ n) - 1) &&& nI m = nI m := by
  have hp := pow_le hn
  have h1 : 1 ≤ 2 ^ n := Nat.one_le_two_pow
  rw [show nI (2 ^ n) - 1 = nI (2 ^ n - 1) from pk_sub (b := 1) h1, ← Int32.toBitVec_inj, Int32.toBitVec_and]
  apply BitVec.eq_of_toNat_eq
  have e1 : (nI (2 ^ n - 1)).toBitVec.toNat = 2 ^ n - 1 := by
    show (BitVec.ofNat 32 (2 ^ n - 1)).toNat = _
    rw [BitVec.toNat_ofNat, Nat.mod_eq_of_lt (a := 2 ^ n - 1) (b := 2 ^ 32) (by omega)]
  have e2 : (nI m).toBitVec.toNat = m := by
    show (BitVec.ofNat 32 m).toNat = _
    rw [BitVec.toNat_ofNat, Nat.mod_eq_of_lt (a := m) (b := 2 ^ 32) (by omega)]
  rw [BitVec.toNat_and, e1, e2, Nat.and_comm, Nat.and_two_pow_sub_one_eq_mod, Nat.mod_eq_of_lt hm]
theorem kdF_s (f : Fo) (K g : Nat → Nat) (i : Nat) : (f.kdF K g i).setKd i (g i) = f.kdF K g (i + 1) := by
  have e : fset (fun b => if b < i then g b else K b) i (g i) = fun b => if b < i + 1 then g b else K b := by
    funext b
    unfold fset
    by_cases h : b = i
    · rw [if_pos h, if_pos (by omega), h]
    · rw [if_neg h]
      show (if b < i then g b else K b) = _
      by_cases h2 : b < i
      · rw [if_pos h2, if_pos (by omega)]
      · rw [if_neg h2, if_neg (by omega)]
  exact congrArg (fun k => ((f.n, k, f.ab, f.ed, f.po, f.st, f.sp, f.sg, f.hr, f.z) : Fo)) e
theorem VF_kdF {f : Fo} (hV : VF f) {g : Nat → Nat} (hg : ∀ b, g b ≤ 6) (i : Nat) : VF (f.kdF f.kd g i) := by
  obtain ⟨h0, h1, h2, h3, h4⟩ := hV
  refine ⟨h0, fun j hj => ⟨?_, (h1 j hj).2⟩, h2, h3, h4⟩
  show (if j < i then g j else f.kd j) ≤ 6
  by_cases h : j < i
  · rw [if_pos h]; exact hg j
  · rw [if_neg h]; exact (h1 j hj).1
theorem VF_setK {f : Fo} (hV : VF f) {g : Nat → Nat} (hg : ∀ b, g b ≤ 6) : VF (f.setK g) := by
  obtain ⟨h0, h1, h2, h3, h4⟩ := hV
  exact ⟨h0, fun j hj => ⟨hg j, (h1 j hj).2⟩, h2, h3, h4⟩
theorem chp_w {f : Fo} {n w : Nat} {nu : Nat → Int32} {a : Int32} (h : chpQ f n w nu a) (h0 : (chE f n nu).1 ≠ 0) : a = if w = 0 then (chE f n nu).2.1 else if w = 1 then (chE f n nu).2.2.1 else (chE f n nu).2.2.2 := h.elim (fun q => absurd q.1 h0) (fun q => q.2)
theorem kdF_0 (f : Fo) (g : Nat → Nat) : f.kdF f.kd g 0 = f := by
  have e : (fun b => if b < 0 then g b else f.kd b) = f.kd := by
    funext b
    rw [if_neg (Nat.not_lt_zero b)]
  exact congrArg (fun k => ((f.n, k, f.ab, f.ed, f.po, f.st, f.sp, f.sg, f.hr, f.z) : Fo)) e
theorem n1011 {f : Fo} {vT_pictured : Int32} {vT_picture_basins : Int32} {vT_picture_spring : Int32} {vT_picture_hour : Int32} {vT_picture_z : Int32} {cT_picture_kind : Nat → Int32} {cT_picture_above : Nat → Int32} {cT_picture_edge : Nat → Int32} {cT_picture_pool : Nat → Int32} {cT_picture_store : Nat → Int32} {cT_picture_spot : Nat → Int32} {vT_sheets_bits : Nat → Int32} {vT_sheets_size : Nat → Int32} {cT_sheets_numbers : Nat → Nat → Int32} {lV m : Nat} {x4 x5 x6 x7 x8 x10 : Int32} (s0 : Int32 × Int32 × Int32 × Int32 × Int32 × (Nat → Int32) × (Nat → Int32) × (Nat → Int32) × (Nat → Int32) × (Nat → Int32) × (Nat → Int32) × Int32 × Int32 × Int32 × Int32 × (Nat → Int32) × (Nat → Int32) × (Nat → Int32) × (Nat → Int32) × (Nat → Int32) × (Nat → Int32) × Int32 × Int32 × Int32 × Int32 × (Nat → Int32) × (Nat → Int32) × (Nat → Int32) × (Nat → Int32) × (Nat → Int32) × Int32 × Int32 × Int32 × Int32 × (Nat → Int32) × (Nat → Int32)) (hV : VF f) (hp1 : vT_pictured = 1) (hCp : CF f cT_picture_kind cT_picture_above cT_picture_edge cT_picture_pool cT_picture_store cT_picture_spot vT_picture_basins vT_picture_spring vT_picture_hour vT_picture_z) (hE : ∀ q, q < f.n → (f.setK (bitN m)).kp q = f.kp q) (hlV : lV = f.n) (a1 : s0.1 = 0) (a2 : CF (f.setK (bitN m)) s0.2.2.2.2.2.1 s0.2.2.2.2.2.2.1 s0.2.2.2.2.2.2.2.1 s0.2.2.2.2.2.2.2.2.1 s0.2.2.2.2.2.2.2.2.2.1 s0.2.2.2.2.2.2.2.2.2.2.1 s0.2.1 s0.2.2.1 s0.2.2.2.1 s0.2.2.2.2.1) (a3 : ∀ q, q < f.n → s0.2.2.2.2.2.2.2.2.2.2.2.2.2.2.2.2.2.2.2.2.2.2.2.2.2.2.2.2.2.2.2.2.2.2.2 q = nI (f.kp q)) : ∃ u : Int32 × Int32 × Int32 × Int32 × (Nat → Int32) × (Nat → Int32) × (Nat → Int32) × (Nat → Int32) × (Nat → Int32) × (Nat → Int32) × Int32 × Int32 × Int32 × Int32 × (Nat → Int32) × (Nat → Int32) × (Nat → Int32) × (Nat → Int32) × (Nat → Int32) × (Nat → Int32) × Int32 × Int32 × Int32 × Int32 × (Nat → Int32) × (Nat → Int32) × (Nat → Int32) × (Nat → Int32) × (Nat → Int32) × Int32 × Int32 × Int32 × Int32 × (Nat → Int32) × (Nat → Int32), f_L_n_L1011 lV (nI f.n) x4 x5 x6 x7 x8 x10 vT_pictured vT_picture_basins vT_picture_spring vT_picture_hour vT_picture_z cT_picture_kind cT_picture_above cT_picture_edge cT_picture_pool cT_picture_store cT_picture_spot vT_sheets_bits vT_sheets_size cT_sheets_numbers FU s0 = some u ∧ (CF (f) u.2.2.2.2.1 u.2.2.2.2.2.1 u.2.2.2.2.2.2.1 u.2.2.2.2.2.2.2.1 u.2.2.2.2.2.2.2.2.1 u.2.2.2.2.2.2.2.2.2.1 u.1 u.2.1 u.2.2.1 u.2.2.2.1)
  := by
  have hn : f.n ≤ 10 := hV.1
  have hV1 : VF (f.setK (bitN m)) := VF_setK hV (fun b => Nat.le_trans (bitN_le m b) (by decide))
  subst hlV
  unfold f_L_n_L1011
  refine lp_go3 f.n (fun i s => s.1 = nI i ∧ CF (f.setK (bitN m)) s.2.2.2.2.2.1 s.2.2.2.2.2.2.1 s.2.2.2.2.2.2.2.1 s.2.2.2.2.2.2.2.2.1 s.2.2.2.2.2.2.2.2.2.1 s.2.2.2.2.2.2.2.2.2.2.1 s.2.1 s.2.2.1 s.2.2.2.1 s.2.2.2.2.1 ∧ ∀ q, q < f.n → s.2.2.2.2.2.2.2.2.2.2.2.2.2.2.2.2.2.2.2.2.2.2.2.2.2.2.2.2.2.2.2.2.2.2.2 q = nI (f.kp q)) ⟨a1, a2, a3⟩ (FU_gt (by omega)) ?_
  clear a1 a2 a3
  rintro i s hi ⟨a1, a2, a3⟩ rc
  rw [a1]
  unfold f_L_n_L1011_b
  by_cases hx : i = f.n
  · left
    subst hx
    rw [br_t1 (nI_le (Nat.le_refl _) (by omega))]
    unfold f_L_n_J1041
    refine bd_ex _ (S_undo hp1 hV hCp) (fun u1 h1 => ?_)
    obtain ⟨h11, h12⟩ := h1
    rw [br_t1 (by rw [h11]; exact n0_le _ (by have := hV.2.2.2.1; omega))]
    exact ⟨_, rfl, h12⟩
  · right
    have hi' : i < f.n := by omega
    refine ⟨hi', ?_⟩
    rw [br_f1 (nI_ge hi' (by omega))]
    obtain ⟨u2, h21, h22⟩ := S_of6 (b := i) hV1 a2 hi'
    rw [bd_t h21, gd_t (vp_in_nI hi' (by omega)), nI_clamp (by omega), br_t1 (by rw [h22, a3 i hi', hE i hi'])]
    refine ⟨_, ?_, rfl⟩
    exact ⟨nI_1 i, a2, a3⟩
theorem n977 {f : Fo} {vT_pictured : Int32} {vT_picture_basins : Int32} {vT_picture_spring : Int32} {vT_picture_hour : Int32} {vT_picture_z : Int32} {cT_picture_kind : Nat → Int32} {cT_picture_above : Nat → Int32} {cT_picture_edge : Nat → Int32} {cT_picture_pool : Nat → Int32} {cT_picture_store : Nat → Int32} {cT_picture_spot : Nat → Int32} {vT_sheets_bits : Nat → Int32} {vT_sheets_size : Nat → Int32} {cT_sheets_numbers : Nat → Nat → Int32} {lV m : Nat} {x4 x5 x6 x7 x8 x10 : Int32} (s0 : Int32 × Int32 × Int32 × Int32 × Int32 × Int32 × (Nat → Int32) × (Nat → Int32) × (Nat → Int32) × (Nat → Int32) × (Nat → Int32) × (Nat → Int32) × Int32 × Int32 × Int32 × Int32 × (Nat → Int32) × (Nat → Int32) × (Nat → Int32) × (Nat → Int32) × (Nat → Int32) × (Nat → Int32) × Int32 × Int32 × Int32 × Int32 × (Nat → Int32) × (Nat → Int32) × (Nat → Int32) × (Nat → Int32) × (Nat → Int32) × Int32 × Int32 × Int32 × Int32 × (Nat → Int32) × (Nat → Int32)) (hV : VF f) (hp1 : vT_pictured = 1) (hCp : CF f cT_picture_kind cT_picture_above cT_picture_edge cT_picture_pool cT_picture_store cT_picture_spot vT_picture_basins vT_picture_spring vT_picture_hour vT_picture_z) (hE : ∀ q, q < f.n → (f.setK (bitN m)).kp q = f.kp q) (hlV : lV = f.n) (a0 : s0.1 = nI m) (a1 : s0.2.1 = 0) (a2 : CF (f) s0.2.2.2.2.2.2.1 s0.2.2.2.2.2.2.2.1 s0.2.2.2.2.2.2.2.2.1 s0.2.2.2.2.2.2.2.2.2.1 s0.2.2.2.2.2.2.2.2.2.2.1 s0.2.2.2.2.2.2.2.2.2.2.2.1 s0.2.2.1 s0.2.2.2.1 s0.2.2.2.2.1 s0.2.2.2.2.2.1) (a3 : ∀ q, q < f.n → s0.2.2.2.2.2.2.2.2.2.2.2.2.2.2.2.2.2.2.2.2.2.2.2.2.2.2.2.2.2.2.2.2.2.2.2.2 q = nI (f.kp q)) : ∃ u : Int32 × Int32 × Int32 × Int32 × (Nat → Int32) × (Nat → Int32) × (Nat → Int32) × (Nat → Int32) × (Nat → Int32) × (Nat → Int32) × Int32 × Int32 × Int32 × Int32 × (Nat → Int32) × (Nat → Int32) × (Nat → Int32) × (Nat → Int32) × (Nat → Int32) × (Nat → Int32) × Int32 × Int32 × Int32 × Int32 × (Nat → Int32) × (Nat → Int32) × (Nat → Int32) × (Nat → Int32) × (Nat → Int32) × Int32 × Int32 × Int32 × Int32 × (Nat → Int32) × (Nat → Int32), f_L_n_L977 lV (nI f.n) x4 x5 x6 x7 x8 x10 vT_pictured vT_picture_basins vT_picture_spring vT_picture_hour vT_picture_z cT_picture_kind cT_picture_above cT_picture_edge cT_picture_pool cT_picture_store cT_picture_spot vT_sheets_bits vT_sheets_size cT_sheets_numbers FU s0 = some u ∧ (CF (f) u.2.2.2.2.1 u.2.2.2.2.2.1 u.2.2.2.2.2.2.1 u.2.2.2.2.2.2.2.1 u.2.2.2.2.2.2.2.2.1 u.2.2.2.2.2.2.2.2.2.1 u.1 u.2.1 u.2.2.1 u.2.2.2.1)
  := by
  have hn : f.n ≤ 10 := hV.1
  unfold f_L_n_L977
  rw [← kdF_0 f (bitN m)] at a2
  refine lp_go3 f.n (fun i s => s.1 = nI m ∧ s.2.1 = nI i ∧ CF (f.kdF f.kd (bitN m) i) s.2.2.2.2.2.2.1 s.2.2.2.2.2.2.2.1 s.2.2.2.2.2.2.2.2.1 s.2.2.2.2.2.2.2.2.2.1 s.2.2.2.2.2.2.2.2.2.2.1 s.2.2.2.2.2.2.2.2.2.2.2.1 s.2.2.1 s.2.2.2.1 s.2.2.2.2.1 s.2.2.2.2.2.1 ∧ ∀ q, q < f.n → s.2.2.2.2.2.2.2.2.2.2.2.2.2.2.2.2.2.2.2.2.2.2.2.2.2.2.2.2.2.2.2.2.2.2.2.2 q = nI (f.kp q)) ⟨a0, a1, a2, a3⟩ (FU_gt (by omega)) ?_
  clear a0 a1 a2 a3
  rintro i s hi ⟨a0, a1, a2, a3⟩ rc
  rw [a0, a1]
  unfold f_L_n_L977_b
  by_cases hx : i = f.n
  · left
    subst hx
    rw [br_t1 (nI_le (Nat.le_refl _) (by omega))]
    exact n1011 (m := m) _ hV hp1 hCp hE hlV rfl (CF_kdF_n a2) a3
  · right
    have hi' : i < f.n := by omega
    refine ⟨hi', ?_⟩
    rw [br_f1 (nI_ge hi' (by omega)), bitN_e m (show i < 10 by omega)]
    obtain ⟨u2, h21, h22, h23⟩ := S_chg0 (j := i) (w := bitN m i) (VF_kdF hV (fun b => Nat.le_trans (bitN_le m b) (by decide)) i) a2 hi' (Nat.le_trans (bitN_le m i) (by decide))
    rw [kdF_s] at h23
    rw [bd_t h21, br_t1 (by
      rw [h22]
      have := ((VF_kdF hV (g := bitN m) (fun b => Nat.le_trans (bitN_le m b) (by decide)) i).2.1 i hi').1
      exact n0_le _ (by omega))]
    refine ⟨_, ?_, rfl⟩
    exact ⟨rfl, nI_1 i, h23, a3⟩
theorem n949 {f : Fo} {vT_pictured : Int32} {vT_picture_basins : Int32} {vT_picture_spring : Int32} {vT_picture_hour : Int32} {vT_picture_z : Int32} {cT_picture_kind : Nat → Int32} {cT_picture_above : Nat → Int32} {cT_picture_edge : Nat → Int32} {cT_picture_pool : Nat → Int32} {cT_picture_store : Nat → Int32} {cT_picture_spot : Nat → Int32} {vT_sheets_bits : Nat → Int32} {vT_sheets_size : Nat → Int32} {cT_sheets_numbers : Nat → Nat → Int32} {lV m : Nat} {x4 x5 x6 x7 x8 x10 : Int32} (s0 : Int32 × Int32 × Int32 × Int32 × Int32 × Int32 × (Nat → Int32) × (Nat → Int32) × (Nat → Int32) × (Nat → Int32) × (Nat → Int32) × (Nat → Int32) × Int32 × Int32 × Int32 × Int32 × (Nat → Int32) × (Nat → Int32) × (Nat → Int32) × (Nat → Int32) × (Nat → Int32) × (Nat → Int32) × Int32 × Int32 × Int32 × Int32 × (Nat → Int32) × (Nat → Int32) × (Nat → Int32) × (Nat → Int32) × (Nat → Int32) × Int32 × Int32 × Int32 × Int32 × (Nat → Int32) × (Nat → Int32)) (hV : VF f) (hp1 : vT_pictured = 1) (hCp : CF f cT_picture_kind cT_picture_above cT_picture_edge cT_picture_pool cT_picture_store cT_picture_spot vT_picture_basins vT_picture_spring vT_picture_hour vT_picture_z) (hE : ∀ q, q < f.n → (f.setK (bitN m)).kp q = f.kp q) (hlV : lV = f.n) (a0 : s0.1 = nI m) (a1 : s0.2.1 = 0) (a2 : CF (f) s0.2.2.2.2.2.2.1 s0.2.2.2.2.2.2.2.1 s0.2.2.2.2.2.2.2.2.1 s0.2.2.2.2.2.2.2.2.2.1 s0.2.2.2.2.2.2.2.2.2.2.1 s0.2.2.2.2.2.2.2.2.2.2.2.1 s0.2.2.1 s0.2.2.2.1 s0.2.2.2.2.1 s0.2.2.2.2.2.1) : ∃ u : Int32 × Int32 × Int32 × Int32 × (Nat → Int32) × (Nat → Int32) × (Nat → Int32) × (Nat → Int32) × (Nat → Int32) × (Nat → Int32) × Int32 × Int32 × Int32 × Int32 × (Nat → Int32) × (Nat → Int32) × (Nat → Int32) × (Nat → Int32) × (Nat → Int32) × (Nat → Int32) × Int32 × Int32 × Int32 × Int32 × (Nat → Int32) × (Nat → Int32) × (Nat → Int32) × (Nat → Int32) × (Nat → Int32) × Int32 × Int32 × Int32 × Int32 × (Nat → Int32) × (Nat → Int32), f_L_n_L949 lV (nI f.n) x4 x5 x6 x7 x8 x10 vT_pictured vT_picture_basins vT_picture_spring vT_picture_hour vT_picture_z cT_picture_kind cT_picture_above cT_picture_edge cT_picture_pool cT_picture_store cT_picture_spot vT_sheets_bits vT_sheets_size cT_sheets_numbers FU s0 = some u ∧ (CF (f) u.2.2.2.2.1 u.2.2.2.2.2.1 u.2.2.2.2.2.2.1 u.2.2.2.2.2.2.2.1 u.2.2.2.2.2.2.2.2.1 u.2.2.2.2.2.2.2.2.2.1 u.1 u.2.1 u.2.2.1 u.2.2.2.1)
  := by
  have hn : f.n ≤ 10 := hV.1
  unfold f_L_n_L949
  refine lp_go3 f.n (fun i s => s.1 = nI m ∧ s.2.1 = nI i ∧ CF (f) s.2.2.2.2.2.2.1 s.2.2.2.2.2.2.2.1 s.2.2.2.2.2.2.2.2.1 s.2.2.2.2.2.2.2.2.2.1 s.2.2.2.2.2.2.2.2.2.2.1 s.2.2.2.2.2.2.2.2.2.2.2.1 s.2.2.1 s.2.2.2.1 s.2.2.2.2.1 s.2.2.2.2.2.1 ∧ ∀ q, q < i → s.2.2.2.2.2.2.2.2.2.2.2.2.2.2.2.2.2.2.2.2.2.2.2.2.2.2.2.2.2.2.2.2.2.2.2.2 q = nI (f.kp q)) ⟨a0, a1, a2, fun q hq => absurd hq (Nat.not_lt_zero q)⟩ (FU_gt (by omega)) ?_
  clear a0 a1 a2
  rintro i s hi ⟨a0, a1, a2, a3⟩ rc
  rw [a0, a1]
  unfold f_L_n_L949_b
  by_cases hx : i = f.n
  · left
    subst hx
    rw [br_t1 (nI_le (Nat.le_refl _) (by omega))]
    exact n977 (m := m) _ hV hp1 hCp hE hlV rfl rfl a2 a3
  · right
    have hi' : i < f.n := by omega
    refine ⟨hi', ?_⟩
    rw [br_f1 (nI_ge hi' (by omega))]
    obtain ⟨u2, h21, h22⟩ := S_of6 (b := i) hV a2 hi'
    rw [bd_t h21, gd_t (by rw [hlV]; exact vp_in_nI hi' (by omega)), nI_clamp (by omega), h22]
    refine ⟨_, ?_, rfl⟩
    refine ⟨rfl, nI_1 i, a2, fun q hq => ?_⟩
    by_cases e : q = i
    · rw [e]; exact pk_us
    · exact (pk_un e).trans (a3 q (by omega))
theorem P_n {f : Fo} {vT_pictured : Int32} {vT_present_basins : Int32} {vT_present_spring : Int32} {vT_present_hour : Int32} {vT_present_z : Int32} {cT_present_kind : Nat → Int32} {cT_present_above : Nat → Int32} {cT_present_edge : Nat → Int32} {cT_present_pool : Nat → Int32} {cT_present_store : Nat → Int32} {cT_present_spot : Nat → Int32} {vT_picture_basins : Int32} {vT_picture_spring : Int32} {vT_picture_hour : Int32} {vT_picture_z : Int32} {cT_picture_kind : Nat → Int32} {cT_picture_above : Nat → Int32} {cT_picture_edge : Nat → Int32} {cT_picture_pool : Nat → Int32} {cT_picture_store : Nat → Int32} {cT_picture_spot : Nat → Int32} {vT_trial_basins : Int32} {vT_trial_spring : Int32} {vT_trial_hour : Int32} {vT_trial_z : Int32} {cT_trial_kind : Nat → Int32} {cT_trial_above : Nat → Int32} {cT_trial_edge : Nat → Int32} {cT_trial_pool : Nat → Int32} {cT_trial_store : Nat → Int32} {cT_trial_spot : Nat → Int32} {vT_flow_kept : Int32} {vT_flow_leaked : Int32} {vT_flow_ranOff : Int32} {vT_flow_uneven : Int32} {cT_flow_comes : Nat → Int32} {cT_flow_keeps : Nat → Int32} {cT_flow_holds : Nat → Int32} {cT_flow_goesOn : Nat → Int32} {cT_flow_width : Nat → Int32} {vT_search_sets : Int32} {vT_search_least : Int32} {vT_search_inAll : Int32} {vT_search_inAny : Int32} {vT_sheets_bits : Nat → Int32} {vT_sheets_size : Nat → Int32} {cT_sheets_numbers : Nat → Nat → Int32} {cT_told : Nat → Int32} {cV : Nat → Int32} {x4 x5 x6 x7 x8 x10 : Int32} (hV : VF f) (hC : CF f cT_present_kind cT_present_above cT_present_edge cT_present_pool cT_present_store cT_present_spot vT_present_basins vT_present_spring vT_present_hour vT_present_z) (hp1 : vT_pictured = 1) (hCp : CF f cT_picture_kind cT_picture_above cT_picture_edge cT_picture_pool cT_picture_store cT_picture_spot vT_picture_basins vT_picture_spring vT_picture_hour vT_picture_z) (hb : vT_sheets_bits 0 = 32) (hs : vT_sheets_size 0 = nI f.n) (hnu : ∀ q, q < f.n → cT_sheets_numbers 0 q = nI (f.kp q)) : ∃ u : Int32 × Int32 × Int32 × Int32 × (Nat → Int32) × (Nat → Int32) × (Nat → Int32) × (Nat → Int32) × (Nat → Int32) × (Nat → Int32) × Int32 × Int32 × Int32 × Int32 × (Nat → Int32) × (Nat → Int32) × (Nat → Int32) × (Nat → Int32) × (Nat → Int32) × (Nat → Int32) × Int32 × Int32 × Int32 × Int32 × (Nat → Int32) × (Nat → Int32) × (Nat → Int32) × (Nat → Int32) × (Nat → Int32) × Int32 × Int32 × Int32 × Int32 × (Nat → Int32) × (Nat → Int32), f_L_n f.n (nI f.n) x4 x5 x6 x7 x8 x10 vT_pictured vT_present_basins vT_present_spring vT_present_hour vT_present_z cT_present_kind cT_present_above cT_present_edge cT_present_pool cT_present_store cT_present_spot vT_picture_basins vT_picture_spring vT_picture_hour vT_picture_z cT_picture_kind cT_picture_above cT_picture_edge cT_picture_pool cT_picture_store cT_picture_spot vT_trial_basins vT_trial_spring vT_trial_hour vT_trial_z cT_trial_kind cT_trial_above cT_trial_edge cT_trial_pool cT_trial_store cT_trial_spot vT_flow_kept vT_flow_leaked vT_flow_ranOff vT_flow_uneven cT_flow_comes cT_flow_keeps cT_flow_holds cT_flow_goesOn cT_flow_width vT_search_sets vT_search_least vT_search_inAll vT_search_inAny vT_sheets_bits vT_sheets_size cT_sheets_numbers cT_told cV = some u ∧ (CF (f) u.2.2.2.2.1 u.2.2.2.2.2.1 u.2.2.2.2.2.2.1 u.2.2.2.2.2.2.2.1 u.2.2.2.2.2.2.2.2.1 u.2.2.2.2.2.2.2.2.2.1 u.1 u.2.1 u.2.2.1 u.2.2.2.1)
  := by
  have hn : f.n ≤ 10 := hV.1
  have hG := VG_of hV
  have hle := chS_le (E := expl f f.n (cT_sheets_numbers 0)) (l := -1) (a := nI (2 ^ f.n) - 1) (2 ^ f.n)
  have hpw := pow_le hn
  have hE1 := (chS_spec (E := expl f f.n (cT_sheets_numbers 0)) (l := -1) (a := nI (2 ^ f.n) - 1) (2 ^ f.n)).2
  unfold f_L_n
  refine bd_ex _ (S_chips (n := f.n) hV hC hb hs (by omega)) (fun u1 h1 => ?_)
  by_cases h0 : (chE f f.n (cT_sheets_numbers 0)).1 = 0
  · rw [br_t1 (by rw [h1, h0]; decide)]
    refine bd_ex _ (S_chipped (n := f.n) (w := 0) hV hC (by decide) hb hs (by omega)) (fun u2 h2 => ?_)
    rcases h2 with ⟨-, h2⟩ | ⟨h2, -⟩
    · rw [br_t1 h2]
      exact ⟨_, rfl, hC⟩
    · exact absurd h0 h2
  · obtain ⟨m, m1, m2, m3, m4, m5, m6⟩ := hE1 h0
    have hE : ∀ q, q < f.n → (f.setK (bitN m)).kp q = f.kp q := fun q hq => by
      have e := (m2 q hq hq).trans (hnu q hq)
      have k1 := kp_5 (VG_of (VF_setK hV (g := bitN m) (fun b => Nat.le_trans (bitN_le m b) (by decide)))) (b := q) hq
      have k2 := kp_5 hG hq
      exact (nI_eq (by omega) (by omega)).mp e
    have hcle : (chE f f.n (cT_sheets_numbers 0)).1 ≤ 1024 := Nat.le_trans hle hpw
    rw [br_f1 (by rw [h1]; exact nI_nle (by omega) (by omega))]
    refine bd_ex _ (S_chipped (n := f.n) (w := 0) hV hC (by decide) hb hs (by omega)) (fun u2 h2 => ?_)
    refine bd_ex _ (S_chipped (n := f.n) (w := 1) hV hC (by decide) hb hs (by omega)) (fun u3 h3 => ?_)
    have e2 := (chp_w h2 h0).trans ((if_pos rfl).trans m3)
    have e3 := (chp_w h3 h0).trans ((if_neg (by decide)).trans (if_pos rfl))
    rw [br_t1 (by rw [e2, e3]; exact and_not_0 m4)]
    refine bd_ex _ (S_chipped (n := f.n) (w := 2) hV hC (by decide) hb hs (by omega)) (fun u4 h4 => ?_)
    have e4 := (chp_w h4 h0).trans ((if_neg (by decide)).trans (if_neg (by decide)))
    rw [br_t1 (by rw [e2, e4]; exact and_not_0 m5)]
    by_cases hone : (chE f f.n (cT_sheets_numbers 0)).1 = 1
    · rw [br_t1 (by rw [h1, hone]; rfl)]
      refine bd_ex _ (S_chipped (n := f.n) (w := 1) hV hC (by decide) hb hs (by omega)) (fun u5 h5 => ?_)
      have e5 := (chp_w h5 h0).trans ((if_neg (by decide)).trans (if_pos rfl))
      rw [br_t1 (by rw [e5, e2]; exact (m6 hone).trans (mask_n hn m1))]
      exact n949 (m := m) _ hV hp1 hCp hE rfl e2 rfl hC
    · rw [br_f1 (by rw [h1]; exact nI_ne 1 1 hone rfl (by omega))]
      exact n949 (m := m) _ hV hp1 hCp hE rfl e2 rfl hC
theorem P_o {f : Fo} {vT_present_basins : Int32} {vT_present_spring : Int32} {vT_present_hour : Int32} {vT_present_z : Int32} {cT_present_kind : Nat → Int32} {cT_present_above : Nat → Int32} {cT_present_edge : Nat → Int32} {cT_present_pool : Nat → Int32} {cT_present_store : Nat → Int32} {vT_flow_kept : Int32} {vT_flow_leaked : Int32} {vT_flow_ranOff : Int32} {vT_flow_uneven : Int32} {vT_flow_keptInAll : Int32} {vT_flow_leakedInAll : Int32} {vT_flow_ranOffInAll : Int32} {cT_flow_comes : Nat → Int32} {cT_flow_keeps : Nat → Int32} {cT_flow_holds : Nat → Int32} {cT_flow_goesOn : Nat → Int32} {cT_flow_width : Nat → Int32} {cT_told : Nat → Int32} {cT_present_spot : Nat → Int32} {x3 x4 : Int32} {v c h b : Nat} (hV : VF f) (hC : CF f cT_present_kind cT_present_above cT_present_edge cT_present_pool cT_present_store cT_present_spot vT_present_basins vT_present_spring vT_present_hour vT_present_z) (hv : v < 2 ^ 31) (hc : c < 2 ^ 31) (hb : b < f.n) (hh1 : 1 ≤ h) (hh5 : h ≤ 5) (hl : f.hr + 5 ≤ 9999) : ∃ u : Int32 × Int32 × Int32 × (Nat → Int32) × (Nat → Int32) × (Nat → Int32) × (Nat → Int32) × Int32 × Int32 × Int32 × Int32 × Int32 × Int32 × Int32 × (Nat → Int32) × (Nat → Int32) × (Nat → Int32) × (Nat → Int32) × (Nat → Int32) × (Nat → Int32), f_L_o x3 x4 (nI v) (nI c) (nI h) (nI b) (nI (f.kpT h)) vT_present_basins vT_present_spring vT_present_hour vT_present_z cT_present_kind cT_present_above cT_present_edge cT_present_pool cT_present_store vT_flow_kept vT_flow_leaked vT_flow_ranOff vT_flow_uneven vT_flow_keptInAll vT_flow_leakedInAll vT_flow_ranOffInAll cT_flow_comes cT_flow_keeps cT_flow_holds cT_flow_goesOn cT_flow_width cT_told = some u ∧ (∃ g, VF g ∧ g.n = f.n ∧ g.hr ≤ f.hr + 5 ∧ CF (g) u.2.2.2.1 cT_present_above u.2.2.2.2.1 u.2.2.2.2.2.1 u.2.2.2.2.2.2.1 cT_present_spot vT_present_basins u.1 u.2.1 u.2.2.1)
  := by
  have hn : f.n ≤ 10 := hV.1
  have e4 : ((nI v).toUInt32 >>> ((4 : Int32).toUInt32 &&& Int32.toUInt32 31)).toInt32 = nI (v / 2 ^ 4) := pk_ushrN (n := v) (by omega) 4 4 (by decide)
  have e9 : ((nI c).toUInt32 >>> ((9 : Int32).toUInt32 &&& Int32.toUInt32 31)).toInt32 = nI (c / 2 ^ 9) := pk_ushrN (n := c) (by omega) 9 9 (by decide)
  have r4 : nI (v / 2 ^ 4) - nI (v / 2 ^ 4) / (4 : Int32) * (4 : Int32) = nI (v / 2 ^ 4 % 4) := pk_rem (d := 4) (by omega) (by decide) (by decide)
  have r7 : nI (c / 2 ^ 9) - nI (c / 2 ^ 9) / (7 : Int32) * (7 : Int32) = nI (c / 2 ^ 9 % 7) := pk_rem (d := 7) (by omega) (by decide) (by decide)
  have q4 : nI c - nI c / (4 : Int32) * (4 : Int32) = nI (c % 4) := pk_rem (d := 4) (by omega) (by decide) (by decide)
  have q3 : nI c - nI c / (3 : Int32) * (3 : Int32) = nI (c % 3) := pk_rem (d := 3) (by omega) (by decide) (by decide)
  unfold f_L_o
  rw [e4, e9, r4, r7, q4, q3, show (1 : Int32) + nI (c % 4) = nI (1 + c % 4) from nI_add 1 _, show (1 : Int32) + nI (c % 3) = nI (1 + c % 3) from nI_add 1 _]
  have hw4 : v / 2 ^ 4 % 4 < 4 := Nat.mod_lt _ (by decide)
  generalize v / 2 ^ 4 % 4 = w at *
  by_cases w0 : w = 0
  · rw [br_t1 (show nI w = 0 by rw [w0]; rfl)]
    refine bd_ex _ (S_chg0 hV hC hb (show c / 2 ^ 9 % 7 ≤ 6 by omega)) (fun u1 h1 => ?_)
    obtain ⟨h11, h12⟩ := h1
    rw [br_t1 (by rw [h11]; exact n0_le _ (by have := (hV.2.1 b hb).1; omega))]
    exact ⟨_, rfl, f.setKd b (c / 2 ^ 9 % 7), VF_Kd hV b (by omega), rfl, Nat.le_add_right _ _, h12⟩
  by_cases w1 : w = 1
  · rw [br_f1 (show ¬ nI w = 0 by rw [w1]; decide), br_t1 (show nI w = 1 by rw [w1]; rfl)]
    refine bd_ex _ (S_weather hV hC (by omega) (show 1 + c % 4 ≤ 12 by omega) (by omega)) (fun u1 h1 => ?_)
    obtain ⟨⟨m0, hm0, h11⟩, g, ⟨g1, g2, g3⟩, h12⟩ := h1
    have hm1 : (1 + c % 4) * 999990 ≤ 4 * 999990 := Nat.mul_le_mul_right _ (by omega)
    rw [br_t1 (by rw [h11]; exact n0_le _ (by omega))]
    exact ⟨_, rfl, g, g1, g2, by omega, h12⟩
  by_cases w2 : w = 2
  · rw [br_f1 (show ¬ nI w = 0 by rw [w2]; decide), br_f1 (show ¬ nI w = 1 by rw [w2]; decide), br_t1 (show nI w = 2 by rw [w2]; rfl)]
    refine bd_ex _ (S_wear hV hC (by omega) (by omega) (show 1 + c % 3 ≤ 12 by omega)) (fun u1 h1 => ?_)
    obtain ⟨⟨m0, hm0, h11⟩, g, ⟨g1, g2, g3⟩, h12⟩ := h1
    rw [br_t1 (by rw [h11]; exact n0_le _ (by omega))]
    exact ⟨_, rfl, g, g1, g2, by omega, h12⟩
  · have hw3 : w < 2 ^ 31 := by omega
    rw [br_f1 (nI_ne 0 0 w0 rfl hw3), br_f1 (nI_ne 1 1 w1 rfl hw3), br_f1 (nI_ne 2 2 w2 rfl hw3)]
    refine bd_ex _ (S_hours hV hC hh1 (by omega) (by omega)) (fun u1 h1 => ?_)
    obtain ⟨h11, h12⟩ := h1
    rw [br_t1 h11]
    refine ⟨_, rfl, f.it h, VF_it hV (by omega), (it_same f h).1, ?_, h12⟩
    rw [(it_same f h).2.2.2.2.2.2.1]
    omega
theorem P_z {f : Fo} {vT_present_basins : Int32} {vT_present_spring : Int32} {vT_present_hour : Int32} {cT_present_kind : Nat → Int32} {cT_present_above : Nat → Int32} {cT_present_edge : Nat → Int32} {cT_present_pool : Nat → Int32} {cT_present_store : Nat → Int32} {vT_flow_kept : Int32} {vT_flow_leaked : Int32} {vT_flow_ranOff : Int32} {vT_flow_uneven : Int32} {cT_flow_comes : Nat → Int32} {cT_flow_keeps : Nat → Int32} {cT_flow_holds : Nat → Int32} {cT_flow_goesOn : Nat → Int32} {cT_flow_width : Nat → Int32} {cT_told : Nat → Int32} {cT_present_spot : Nat → Int32} {vT_present_z : Int32} (hV : VF f) (hC : CF f cT_present_kind cT_present_above cT_present_edge cT_present_pool cT_present_store cT_present_spot vT_present_basins vT_present_spring vT_present_hour vT_present_z) : ∃ u : Int32 × Int32 × Int32 × Int32 × (Nat → Int32) × (Nat → Int32) × (Nat → Int32) × (Nat → Int32) × (Nat → Int32) × (Nat → Int32), f_L_z  vT_present_basins vT_present_spring vT_present_hour cT_present_kind cT_present_above cT_present_edge cT_present_pool cT_present_store vT_flow_kept vT_flow_leaked vT_flow_ranOff vT_flow_uneven cT_flow_comes cT_flow_keeps cT_flow_holds cT_flow_goesOn cT_flow_width cT_told = some u ∧ (True)
  := by
  unfold f_L_z
  refine bd_ex _ (S_nowB hV hC) (fun u1 h1 => ?_)
  rw [br_t1 h1]
  exact ⟨_, rfl, trivial⟩
