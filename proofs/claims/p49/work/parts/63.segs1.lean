/-! ===== the law's pieces, one by one: each goes on, and with what ===== -/
theorem lt_k {k n : Nat} (h : k < n) (hn : n ≤ 10) : k < 2 ^ 31 := by omega
theorem P_a {L : Nat} {xs : Nat → Int32} {n i : Nat} (hL : L ≤ 260) (hi : i < 6) : ∃ u : Int32 × Int32 × Int32, f_L_a L xs (nI n) (nI i) = some u ∧ (∃ v c : Nat, v < 2 ^ 31 ∧ c < 2 ^ 31 ∧ u.1 = nI v ∧ u.2.1 = nI c ∧ u.2.2 = nI (1 + c % 5))
  := by
  obtain ⟨v, hv, ev⟩ := cell_e (xs := xs) hL (k := 9 + 2 * i) (by omega)
  obtain ⟨c, hc, ec⟩ := cell_e (xs := xs) hL (k := 10 + 2 * i) (by omega)
  unfold f_L_a
  have e1 : (9 : Int32) + (2 : Int32) * nI i = nI (9 + 2 * i) := by rw [show (2 : Int32) = nI 2 from rfl, pk_mul, show (9 : Int32) = nI 9 from rfl, nI_add]
  have e2 : (10 : Int32) + (2 : Int32) * nI i = nI (10 + 2 * i) := by rw [show (2 : Int32) = nI 2 from rfl, pk_mul, show (10 : Int32) = nI 10 from rfl, nI_add]
  have e3 : nI c - nI c / (5 : Int32) * (5 : Int32) = nI (c % 5) := pk_rem (d := 5) hc (by decide) (by decide)
  rw [e1, e2, bd_t ev, bd_t ec, e3, show (1 : Int32) = nI 1 from rfl, nI_add, nm_q]
  exact ⟨_, rfl, v, c, hv, hc, rfl, rfl, rfl⟩
theorem P_b {f : Fo} {vT_pictured : Int32} {vT_present_basins : Int32} {vT_present_spring : Int32} {vT_present_hour : Int32} {vT_present_z : Int32} {cT_present_kind : Nat → Int32} {cT_present_above : Nat → Int32} {cT_present_edge : Nat → Int32} {cT_present_pool : Nat → Int32} {cT_present_store : Nat → Int32} {cT_present_spot : Nat → Int32} {vT_picture_basins : Int32} {vT_picture_spring : Int32} {vT_picture_hour : Int32} {vT_picture_z : Int32} {cT_picture_kind : Nat → Int32} {cT_picture_above : Nat → Int32} {cT_picture_edge : Nat → Int32} {cT_picture_pool : Nat → Int32} {cT_picture_store : Nat → Int32} {cT_picture_spot : Nat → Int32} {vT_trial_basins : Int32} {vT_trial_spring : Int32} {vT_trial_hour : Int32} {vT_trial_z : Int32} {cT_trial_kind : Nat → Int32} {cT_trial_above : Nat → Int32} {cT_trial_edge : Nat → Int32} {cT_trial_pool : Nat → Int32} {cT_trial_store : Nat → Int32} {cT_trial_spot : Nat → Int32} {vT_flow_kept : Int32} {vT_flow_leaked : Int32} {vT_flow_ranOff : Int32} {vT_flow_uneven : Int32} {vT_flow_keptInAll : Int32} {vT_flow_leakedInAll : Int32} {vT_flow_ranOffInAll : Int32} {cT_flow_comes : Nat → Int32} {cT_flow_keeps : Nat → Int32} {cT_flow_holds : Nat → Int32} {cT_flow_goesOn : Nat → Int32} {cT_flow_width : Nat → Int32} {cT_told : Nat → Int32} {x4 x6 : Int32} {v h : Nat} (hV : VF f) (hC : CF f cT_present_kind cT_present_above cT_present_edge cT_present_pool cT_present_store cT_present_spot vT_present_basins vT_present_spring vT_present_hour vT_present_z) (hv : v < 2 ^ 31) (hn0 : f.n ≠ 0) (hh1 : 1 ≤ h) (hh5 : h ≤ 5) (hl : f.hr + h ≤ 9999) : ∃ u : Int32 × Int32 × Int32 × Int32 × Int32 × Int32 × Int32 × Int32 × (Nat → Int32) × (Nat → Int32) × (Nat → Int32) × (Nat → Int32) × (Nat → Int32) × (Nat → Int32) × Int32 × Int32 × Int32 × Int32 × (Nat → Int32) × (Nat → Int32) × (Nat → Int32) × (Nat → Int32) × (Nat → Int32) × (Nat → Int32) × Int32 × Int32 × Int32 × Int32 × Int32 × Int32 × Int32 × (Nat → Int32) × (Nat → Int32) × (Nat → Int32) × (Nat → Int32) × (Nat → Int32) × (Nat → Int32), f_L_b (nI f.n) x4 (nI v) x6 (nI h) vT_pictured vT_present_basins vT_present_spring vT_present_hour vT_present_z cT_present_kind cT_present_above cT_present_edge cT_present_pool cT_present_store cT_present_spot vT_picture_basins vT_picture_spring vT_picture_hour vT_picture_z cT_picture_kind cT_picture_above cT_picture_edge cT_picture_pool cT_picture_store cT_picture_spot vT_trial_basins vT_trial_spring vT_trial_hour vT_trial_z cT_trial_kind cT_trial_above cT_trial_edge cT_trial_pool cT_trial_store cT_trial_spot vT_flow_kept vT_flow_leaked vT_flow_ranOff vT_flow_uneven vT_flow_keptInAll vT_flow_leakedInAll vT_flow_ranOffInAll cT_flow_comes cT_flow_keeps cT_flow_holds cT_flow_goesOn cT_flow_width cT_told = some u ∧ (u.1 = nI (v % f.n) ∧ u.2.1 = nI (f.gt h (v % f.n)) ∧ u.2.2.1 = nI (f.kpT h) ∧ (u.2.2.2.1 = 1 ∧ CF (f) u.2.2.2.2.2.2.2.2.1 u.2.2.2.2.2.2.2.2.2.1 u.2.2.2.2.2.2.2.2.2.2.1 u.2.2.2.2.2.2.2.2.2.2.2.1 u.2.2.2.2.2.2.2.2.2.2.2.2.1 u.2.2.2.2.2.2.2.2.2.2.2.2.2.1 u.2.2.2.2.1 u.2.2.2.2.2.1 u.2.2.2.2.2.2.1 u.2.2.2.2.2.2.2.1))
  := by
  have hn : f.n ≤ 10 := hV.1
  have hb : v % f.n < f.n := Nat.mod_lt _ (by omega)
  have e3 : nI v - nI v / nI f.n * nI f.n = nI (v % f.n) := pk_rem hv (by omega) (by omega)
  unfold f_L_b
  rw [gd_t (nI_ne 0 0 hn0), e3, nm_q, n3_add]
  refine bd_ex _ (S_ahead hV hC (by omega) hl hb) (fun u1 h1 => ?_)
  rw [h1]
  unfold f_L_b_L117
  refine lp_go3 f.n (fun i s => s.1 = nI (v % f.n) ∧ s.2.1 = nI (f.gt h (v % f.n)) ∧ s.2.2.1 = nI (sumN (fun q => f.gt h q) i) ∧ s.2.2.2.1 = nI i) ⟨rfl, rfl, rfl, rfl⟩ (FU_gt (by omega)) ?_
  rintro i s hi ⟨a1, a2, a3, a4⟩ rc
  rw [a1, a2, a3, a4]
  unfold f_L_b_L117_b
  by_cases hx : i = f.n
  · left
    subst hx
    rw [br_t1 (nI_le (Nat.le_refl _) (by omega))]
    unfold f_L_b_J144
    refine bd_ex _ (S_ahead0 hV hC (by omega) hl) (fun u2 h2 => ?_)
    rw [h2, br_t1 (congrArg nI (gt_sum f h))]
    refine bd_ex _ (S_image hV hC) (fun u3 h3 => ?_)
    obtain ⟨h31, h32, h33⟩ := h3
    rw [br_t1 h31]
    exact ⟨_, rfl, rfl, rfl, congrArg nI (gt_sum f h), h32, h33⟩
  · right
    have hi' : i < f.n := by omega
    refine ⟨hi', ?_⟩
    rw [br_f1 (nI_ge hi' (by omega)), n3_add]
    obtain ⟨u2, h21, h22⟩ := S_ahead (k := h) (b := i) hV hC (by omega) hl hi'
    rw [bd_t h21, h22, nI_add, nm_q]
    exact ⟨_, ⟨rfl, rfl, rfl, nI_1 i⟩, rfl⟩
theorem P_c {f : Fo} {vT_pictured : Int32} {vT_present_basins : Int32} {vT_present_spring : Int32} {vT_present_hour : Int32} {vT_present_z : Int32} {cT_present_kind : Nat → Int32} {cT_present_above : Nat → Int32} {cT_present_edge : Nat → Int32} {cT_present_pool : Nat → Int32} {cT_present_store : Nat → Int32} {cT_present_spot : Nat → Int32} {vT_picture_basins : Int32} {vT_picture_spring : Int32} {vT_picture_hour : Int32} {vT_picture_z : Int32} {cT_picture_kind : Nat → Int32} {cT_picture_above : Nat → Int32} {cT_picture_edge : Nat → Int32} {cT_picture_pool : Nat → Int32} {cT_picture_store : Nat → Int32} {cT_picture_spot : Nat → Int32} {vT_flow_kept : Int32} {vT_flow_leaked : Int32} {vT_flow_ranOff : Int32} {vT_flow_uneven : Int32} {vT_flow_keptInAll : Int32} {vT_flow_leakedInAll : Int32} {vT_flow_ranOffInAll : Int32} {cT_flow_comes : Nat → Int32} {cT_flow_keeps : Nat → Int32} {cT_flow_holds : Nat → Int32} {cT_flow_goesOn : Nat → Int32} {cT_flow_width : Nat → Int32} {cT_told : Nat → Int32} {x3 x4 x5 x6 : Int32} {h b : Nat} (hV : VF f) (hC : CF f cT_present_kind cT_present_above cT_present_edge cT_present_pool cT_present_store cT_present_spot vT_present_basins vT_present_spring vT_present_hour vT_present_z) (hp1 : vT_pictured = 1) (hCp : CF f cT_picture_kind cT_picture_above cT_picture_edge cT_picture_pool cT_picture_store cT_picture_spot vT_picture_basins vT_picture_spring vT_picture_hour vT_picture_z) (hb : b < f.n) (hh1 : 1 ≤ h) (hh5 : h ≤ 5) (hl : f.hr + h ≤ 9999) : ∃ u : Int32 × Int32 × Int32 × Int32 × Int32 × (Nat → Int32) × (Nat → Int32) × (Nat → Int32) × (Nat → Int32) × (Nat → Int32) × (Nat → Int32) × Int32 × Int32 × Int32 × Int32 × Int32 × Int32 × Int32 × (Nat → Int32) × (Nat → Int32) × (Nat → Int32) × (Nat → Int32) × (Nat → Int32) × (Nat → Int32), f_L_c x3 x4 x5 x6 (nI h) (nI b) (nI (f.gt h b)) (nI (f.kpT h)) vT_pictured vT_present_basins vT_present_spring vT_present_hour vT_present_z cT_present_kind cT_present_above cT_present_edge cT_present_pool cT_present_store cT_present_spot vT_picture_basins vT_picture_spring vT_picture_hour vT_picture_z cT_picture_kind cT_picture_above cT_picture_edge cT_picture_pool cT_picture_store cT_picture_spot vT_flow_kept vT_flow_leaked vT_flow_ranOff vT_flow_uneven vT_flow_keptInAll vT_flow_leakedInAll vT_flow_ranOffInAll cT_flow_comes cT_flow_keeps cT_flow_holds cT_flow_goesOn cT_flow_width cT_told = some u ∧ (u.1 = f.st b ∧ CF (f) u.2.2.2.2.2.1 u.2.2.2.2.2.2.1 u.2.2.2.2.2.2.2.1 u.2.2.2.2.2.2.2.2.1 u.2.2.2.2.2.2.2.2.2.1 u.2.2.2.2.2.2.2.2.2.2.1 u.2.1 u.2.2.1 u.2.2.2.1 u.2.2.2.2.1)
  := by
  have hn : f.n ≤ 10 := hV.1
  unfold f_L_c
  refine bd_ex _ (S_of4 hV hC hb) (fun u1 h1 => ?_)
  refine bd_ex _ (S_hours hV hC hh1 (by omega) hl) (fun u2 h2 => ?_)
  obtain ⟨h21, h22⟩ := h2
  rw [br_t1 h21]
  refine bd_ex _ (S_of4 (VF_it hV hl) h22 (by rw [(it_same f h).1]; exact hb)) (fun u3 h3 => ?_)
  rw [br_t1 (by rw [h3, h1, it_st])]
  refine bd_ex _ (S_undo hp1 hV hCp) (fun u4 h4 => ?_)
  obtain ⟨h41, h42⟩ := h4
  rw [br_t1 (by rw [h41]; exact n0_le _ (by have := hV.2.2.2.1; omega))]
  exact ⟨_, rfl, h1, h42⟩
theorem P_d {f : Fo} {vT_present_basins : Int32} {vT_present_spring : Int32} {vT_present_hour : Int32} {vT_present_z : Int32} {cT_present_kind : Nat → Int32} {cT_present_above : Nat → Int32} {cT_present_edge : Nat → Int32} {cT_present_pool : Nat → Int32} {cT_present_store : Nat → Int32} {cT_present_spot : Nat → Int32} {vT_trial_basins : Int32} {vT_trial_spring : Int32} {vT_trial_hour : Int32} {vT_trial_z : Int32} {cT_trial_kind : Nat → Int32} {cT_trial_above : Nat → Int32} {cT_trial_edge : Nat → Int32} {cT_trial_pool : Nat → Int32} {cT_trial_store : Nat → Int32} {cT_trial_spot : Nat → Int32} {vT_flow_kept : Int32} {vT_flow_leaked : Int32} {vT_flow_ranOff : Int32} {vT_flow_uneven : Int32} {vT_flow_keptInAll : Int32} {vT_flow_leakedInAll : Int32} {vT_flow_ranOffInAll : Int32} {cT_flow_comes : Nat → Int32} {cT_flow_keeps : Nat → Int32} {cT_flow_holds : Nat → Int32} {cT_flow_goesOn : Nat → Int32} {cT_flow_width : Nat → Int32} {cT_told : Nat → Int32} {x3 x4 x5 x9 x10 x11 : Int32} {c h b : Nat} (hV : VF f) (hC : CF f cT_present_kind cT_present_above cT_present_edge cT_present_pool cT_present_store cT_present_spot vT_present_basins vT_present_spring vT_present_hour vT_present_z) (hc : c < 2 ^ 31) (hb : b < f.n) (hh1 : 1 ≤ h) (hh5 : h ≤ 5) (hl : f.hr + h ≤ 9999) : ∃ u : Int32 × Int32 × Int32 × Int32 × Int32 × Int32 × Int32 × Int32 × (Nat → Int32) × (Nat → Int32) × (Nat → Int32) × (Nat → Int32) × (Nat → Int32) × (Nat → Int32) × Int32 × Int32 × Int32 × Int32 × Int32 × Int32 × Int32 × (Nat → Int32) × (Nat → Int32) × (Nat → Int32) × (Nat → Int32) × (Nat → Int32) × (Nat → Int32), f_L_d x3 x4 x5 (nI c) (nI h) (nI b) x9 x10 x11 vT_present_basins vT_present_spring vT_present_hour vT_present_z cT_present_kind cT_present_above cT_present_edge cT_present_pool cT_present_store cT_present_spot vT_trial_basins vT_trial_spring vT_trial_hour vT_trial_z cT_trial_kind cT_trial_above cT_trial_edge cT_trial_pool cT_trial_store cT_trial_spot vT_flow_kept vT_flow_leaked vT_flow_ranOff vT_flow_uneven vT_flow_keptInAll vT_flow_leakedInAll vT_flow_ranOffInAll cT_flow_comes cT_flow_keeps cT_flow_holds cT_flow_goesOn cT_flow_width cT_told = some u ∧ (∃ e k a o : Nat, bestE f h b e ∧ bestK f h b k ∧ (b ≠ 0 → bestP f h b a) ∧ o ≤ 8 ∧ u.1 = nI e ∧ u.2.1 = nI k ∧ (b ≠ 0 → u.2.2.1 = nI a) ∧ u.2.2.2.1 = nI o)
  := by
  have hn : f.n ≤ 10 := hV.1
  obtain ⟨e, he, hE⟩ := edge_best hV (h := h) (by omega) hb
  obtain ⟨k, hk, hK⟩ := kind_best hV (h := h) (by omega) hb
  have ho : ((nI c).toUInt32 >>> ((4 : Int32).toUInt32 &&& Int32.toUInt32 31)).toInt32 = nI (c / 2 ^ 4) := pk_ushrN (n := c) (by omega) 4 4 (by decide)
  have h16 : c / 2 ^ 4 < 2 ^ 31 := by omega
  have h9 : nI (c / 2 ^ 4) - nI (c / 2 ^ 4) / (9 : Int32) * (9 : Int32) = nI (c / 2 ^ 4 % 9) := pk_rem (d := 9) h16 (by decide) (by decide)
  unfold f_L_d
  refine bd_ex _ (S_edge hV hC hb hh1 (by omega) hl) (fun u1 h1 => ?_)
  refine bd_ex _ (S_kindFor hV hC hb hh1 (by omega) hl) (fun u2 h2 => ?_)
  rw [ho, h9]
  by_cases h0 : b = 0
  · rw [br_t1 (show nI b = 0 by rw [h0]; rfl), nm_q]
    exact ⟨_, rfl, e, k, 0, _, hE, hK, fun q => absurd h0 q, by omega, h1.trans he, h2.trans hk, fun q => absurd h0 q, rfl⟩
  · rw [br_f1 (nI_ne 0 0 h0)]
    obtain ⟨a, ha, hA⟩ := place_best hV (h := h) (by omega) h0 hb
    refine bd_ex _ (S_place hV hC h0 hb hh1 (by omega) hl) (fun u3 h3 => ?_)
    rw [nm_q]
    exact ⟨_, rfl, e, k, a, _, hE, hK, fun _ => hA, by omega, h1.trans he, h2.trans hk, fun _ => h3.trans ha, rfl⟩
theorem P_e {f : Fo} {vT_pictured : Int32} {vT_present_basins : Int32} {vT_present_spring : Int32} {vT_present_hour : Int32} {vT_present_z : Int32} {cT_present_kind : Nat → Int32} {cT_present_above : Nat → Int32} {cT_present_edge : Nat → Int32} {cT_present_pool : Nat → Int32} {cT_present_store : Nat → Int32} {cT_present_spot : Nat → Int32} {vT_picture_basins : Int32} {vT_picture_spring : Int32} {vT_picture_hour : Int32} {vT_picture_z : Int32} {cT_picture_kind : Nat → Int32} {cT_picture_above : Nat → Int32} {cT_picture_edge : Nat → Int32} {cT_picture_pool : Nat → Int32} {cT_picture_store : Nat → Int32} {cT_picture_spot : Nat → Int32} {vT_trial_basins : Int32} {vT_trial_spring : Int32} {vT_trial_hour : Int32} {vT_trial_z : Int32} {cT_trial_kind : Nat → Int32} {cT_trial_above : Nat → Int32} {cT_trial_edge : Nat → Int32} {cT_trial_pool : Nat → Int32} {cT_trial_store : Nat → Int32} {cT_trial_spot : Nat → Int32} {vT_flow_kept : Int32} {vT_flow_leaked : Int32} {vT_flow_ranOff : Int32} {vT_flow_uneven : Int32} {vT_flow_keptInAll : Int32} {vT_flow_leakedInAll : Int32} {vT_flow_ranOffInAll : Int32} {cT_flow_comes : Nat → Int32} {cT_flow_keeps : Nat → Int32} {cT_flow_holds : Nat → Int32} {cT_flow_goesOn : Nat → Int32} {cT_flow_width : Nat → Int32} {cT_told : Nat → Int32} {x3 x4 x5 x6 x10 x11 x13 x14 : Int32} {h b e o : Nat} (hV : VF f) (hC : CF f cT_present_kind cT_present_above cT_present_edge cT_present_pool cT_present_store cT_present_spot vT_present_basins vT_present_spring vT_present_hour vT_present_z) (hp1 : vT_pictured = 1) (hCp : CF f cT_picture_kind cT_picture_above cT_picture_edge cT_picture_pool cT_picture_store cT_picture_spot vT_picture_basins vT_picture_spring vT_picture_hour vT_picture_z) (hE : bestE f h b e) (ho : o ≤ 8) (hb : b < f.n) (hh1 : 1 ≤ h) (hh5 : h ≤ 5) (hl : f.hr + h ≤ 9999) : ∃ u : Int32 × Int32 × Int32 × Int32 × (Nat → Int32) × (Nat → Int32) × (Nat → Int32) × (Nat → Int32) × (Nat → Int32) × (Nat → Int32) × Int32 × Int32 × Int32 × Int32 × (Nat → Int32) × (Nat → Int32) × (Nat → Int32) × (Nat → Int32) × (Nat → Int32) × (Nat → Int32) × Int32 × Int32 × Int32 × Int32 × Int32 × Int32 × Int32 × (Nat → Int32) × (Nat → Int32) × (Nat → Int32) × (Nat → Int32) × (Nat → Int32) × (Nat → Int32), f_L_e x3 x4 x5 x6 (nI h) (nI b) (nI (f.gt h b)) x10 x11 (nI e) x13 x14 (nI o) vT_pictured vT_present_basins vT_present_spring vT_present_hour vT_present_z cT_present_kind cT_present_above cT_present_edge cT_present_pool cT_present_store cT_present_spot vT_picture_basins vT_picture_spring vT_picture_hour vT_picture_z cT_picture_kind cT_picture_above cT_picture_edge cT_picture_pool cT_picture_store cT_picture_spot vT_trial_basins vT_trial_spring vT_trial_hour vT_trial_z cT_trial_kind cT_trial_above cT_trial_edge cT_trial_pool cT_trial_store cT_trial_spot vT_flow_kept vT_flow_leaked vT_flow_ranOff vT_flow_uneven vT_flow_keptInAll vT_flow_leakedInAll vT_flow_ranOffInAll cT_flow_comes cT_flow_keeps cT_flow_holds cT_flow_goesOn cT_flow_width cT_told = some u ∧ (CF (f) u.2.2.2.2.1 u.2.2.2.2.2.1 u.2.2.2.2.2.2.1 u.2.2.2.2.2.2.2.1 u.2.2.2.2.2.2.2.2.1 u.2.2.2.2.2.2.2.2.2.1 u.1 u.2.1 u.2.2.1 u.2.2.2.1)
  := by
  have hn : f.n ≤ 10 := hV.1
  have hV1 : VF (f.setEd b e) := VF_Ed hV b hE.1 hE.2.1
  have hV2 : VF (f.setEd b (1 + o)) := VF_Ed hV b (by omega) (by omega)
  obtain ⟨-, hed1, hed9, -, -⟩ := hV.2.1 b hb
  unfold f_L_e
  refine bd_ex _ (S_chg2 hV hC hb hE.1 hE.2.1) (fun u1 h1 => ?_)
  obtain ⟨h11, h12⟩ := h1
  rw [br_t1 (by rw [h11]; exact nI_le (a := 1) hed1 (by omega)), n3_add]
  refine bd_ex _ (S_ahead hV1 h12 (by omega) hl hb) (fun u2 h2 => ?_)
  rw [show (1 : Int32) + nI o = nI (1 + o) from nI_add 1 o]
  refine bd_ex _ (S_chg2 hV1 h12 hb (by omega) (by omega)) (fun u3 h3 => ?_)
  obtain ⟨h31, h32⟩ := h3
  rw [setEd2] at h32
  rw [br_t1 (by rw [h31]; exact congrArg nI fset_s)]
  refine bd_ex _ (S_ahead hV2 h32 (by omega) hl hb) (fun u4 h4 => ?_)
  rw [h2, h4]
  have g1 := gt_31 (VG_of hV1) (h := h) (b := b) (by omega) hb
  rw [br_f1 (nI_nlt (hE.2.2 (1 + o) (by omega) (by omega)) (by have := hE.2.2 (1 + o) (by omega) (by omega); omega)), br_f1 (nI_nlt (best_usual_e hV hb hE) (by have := best_usual_e hV hb hE; omega))]
  refine bd_ex _ (S_undo hp1 hV hCp) (fun u5 h5 => ?_)
  obtain ⟨h51, h52⟩ := h5
  rw [br_t1 (by rw [h51]; exact n0_le _ (by have := hV.2.2.2.1; omega))]
  exact ⟨_, rfl, h52⟩
theorem P_f {f : Fo} {vT_pictured : Int32} {vT_present_basins : Int32} {vT_present_spring : Int32} {vT_present_hour : Int32} {vT_present_z : Int32} {cT_present_kind : Nat → Int32} {cT_present_above : Nat → Int32} {cT_present_edge : Nat → Int32} {cT_present_pool : Nat → Int32} {cT_present_store : Nat → Int32} {cT_present_spot : Nat → Int32} {vT_picture_basins : Int32} {vT_picture_spring : Int32} {vT_picture_hour : Int32} {vT_picture_z : Int32} {cT_picture_kind : Nat → Int32} {cT_picture_above : Nat → Int32} {cT_picture_edge : Nat → Int32} {cT_picture_pool : Nat → Int32} {cT_picture_store : Nat → Int32} {cT_picture_spot : Nat → Int32} {vT_trial_basins : Int32} {vT_trial_spring : Int32} {vT_trial_hour : Int32} {vT_trial_z : Int32} {cT_trial_kind : Nat → Int32} {cT_trial_above : Nat → Int32} {cT_trial_edge : Nat → Int32} {cT_trial_pool : Nat → Int32} {cT_trial_store : Nat → Int32} {cT_trial_spot : Nat → Int32} {vT_flow_kept : Int32} {vT_flow_leaked : Int32} {vT_flow_ranOff : Int32} {vT_flow_uneven : Int32} {vT_flow_keptInAll : Int32} {vT_flow_leakedInAll : Int32} {vT_flow_ranOffInAll : Int32} {cT_flow_comes : Nat → Int32} {cT_flow_keeps : Nat → Int32} {cT_flow_holds : Nat → Int32} {cT_flow_goesOn : Nat → Int32} {cT_flow_width : Nat → Int32} {cT_told : Nat → Int32} {x3 x4 x5 x6 x10 x11 x14 : Int32} {h b e o : Nat} (hV : VF f) (hC : CF f cT_present_kind cT_present_above cT_present_edge cT_present_pool cT_present_store cT_present_spot vT_present_basins vT_present_spring vT_present_hour vT_present_z) (hp1 : vT_pictured = 1) (hCp : CF f cT_picture_kind cT_picture_above cT_picture_edge cT_picture_pool cT_picture_store cT_picture_spot vT_picture_basins vT_picture_spring vT_picture_hour vT_picture_z) (hE : bestK f h b e) (ho : o ≤ 8) (hb : b < f.n) (hh1 : 1 ≤ h) (hh5 : h ≤ 5) (hl : f.hr + h ≤ 9999) : ∃ u : Int32 × Int32 × Int32 × Int32 × (Nat → Int32) × (Nat → Int32) × (Nat → Int32) × (Nat → Int32) × (Nat → Int32) × (Nat → Int32) × Int32 × Int32 × Int32 × Int32 × (Nat → Int32) × (Nat → Int32) × (Nat → Int32) × (Nat → Int32) × (Nat → Int32) × (Nat → Int32) × Int32 × Int32 × Int32 × Int32 × Int32 × Int32 × Int32 × (Nat → Int32) × (Nat → Int32) × (Nat → Int32) × (Nat → Int32) × (Nat → Int32) × (Nat → Int32), f_L_f x3 x4 x5 x6 (nI h) (nI b) (nI (f.gt h b)) x10 x11 (nI e) x14 (nI o) vT_pictured vT_present_basins vT_present_spring vT_present_hour vT_present_z cT_present_kind cT_present_above cT_present_edge cT_present_pool cT_present_store cT_present_spot vT_picture_basins vT_picture_spring vT_picture_hour vT_picture_z cT_picture_kind cT_picture_above cT_picture_edge cT_picture_pool cT_picture_store cT_picture_spot vT_trial_basins vT_trial_spring vT_trial_hour vT_trial_z cT_trial_kind cT_trial_above cT_trial_edge cT_trial_pool cT_trial_store cT_trial_spot vT_flow_kept vT_flow_leaked vT_flow_ranOff vT_flow_uneven vT_flow_keptInAll vT_flow_leakedInAll vT_flow_ranOffInAll cT_flow_comes cT_flow_keeps cT_flow_holds cT_flow_goesOn cT_flow_width cT_told = some u ∧ (CF (f) u.2.2.2.2.1 u.2.2.2.2.2.1 u.2.2.2.2.2.2.1 u.2.2.2.2.2.2.2.1 u.2.2.2.2.2.2.2.2.1 u.2.2.2.2.2.2.2.2.2.1 u.1 u.2.1 u.2.2.1 u.2.2.2.1)
  := by
  have hn : f.n ≤ 10 := hV.1
  have hV1 : VF (f.setKd b e) := VF_Kd hV b hE.1
  have hV2 : VF (f.setKd b (o % 7)) := VF_Kd hV b (by omega)
  have hkd := (hV.2.1 b hb).1
  unfold f_L_f
  refine bd_ex _ (S_chg0 hV hC hb hE.1) (fun u1 h1 => ?_)
  obtain ⟨h11, h12⟩ := h1
  rw [br_t1 (by rw [h11]; exact n0_le _ (by omega)), n3_add]
  refine bd_ex _ (S_ahead hV1 h12 (by omega) hl hb) (fun u2 h2 => ?_)
  rw [show nI o - nI o / (7 : Int32) * (7 : Int32) = nI (o % 7) from pk_rem (d := 7) (by omega) (by decide) (by decide)]
  refine bd_ex _ (S_chg0 hV1 h12 hb (by omega)) (fun u3 h3 => ?_)
  obtain ⟨h31, h32⟩ := h3
  rw [setKd2] at h32
  rw [br_t1 (by rw [h31]; exact congrArg nI fset_s)]
  refine bd_ex _ (S_ahead hV2 h32 (by omega) hl hb) (fun u4 h4 => ?_)
  rw [h2, h4]
  have g1 := gt_31 (VG_of hV1) (h := h) (b := b) (by omega) hb
  rw [br_f1 (nI_nlt (hE.2 (o % 7) (by omega)) (by have := hE.2 (o % 7) (by omega); omega)), br_f1 (nI_nlt (best_usual_k hV hb hE) (by have := best_usual_k hV hb hE; omega))]
  refine bd_ex _ (S_undo hp1 hV hCp) (fun u5 h5 => ?_)
  obtain ⟨h51, h52⟩ := h5
  rw [br_t1 (by rw [h51]; exact n0_le _ (by have := hV.2.2.2.1; omega))]
  exact ⟨_, rfl, h52⟩
theorem P_g {f : Fo} {vT_pictured : Int32} {vT_present_basins : Int32} {vT_present_spring : Int32} {vT_present_hour : Int32} {vT_present_z : Int32} {cT_present_kind : Nat → Int32} {cT_present_above : Nat → Int32} {cT_present_edge : Nat → Int32} {cT_present_pool : Nat → Int32} {cT_present_store : Nat → Int32} {cT_present_spot : Nat → Int32} {vT_picture_basins : Int32} {vT_picture_spring : Int32} {vT_picture_hour : Int32} {vT_picture_z : Int32} {cT_picture_kind : Nat → Int32} {cT_picture_above : Nat → Int32} {cT_picture_edge : Nat → Int32} {cT_picture_pool : Nat → Int32} {cT_picture_store : Nat → Int32} {cT_picture_spot : Nat → Int32} {vT_trial_basins : Int32} {vT_trial_spring : Int32} {vT_trial_hour : Int32} {vT_trial_z : Int32} {cT_trial_kind : Nat → Int32} {cT_trial_above : Nat → Int32} {cT_trial_edge : Nat → Int32} {cT_trial_pool : Nat → Int32} {cT_trial_store : Nat → Int32} {cT_trial_spot : Nat → Int32} {vT_flow_kept : Int32} {vT_flow_leaked : Int32} {vT_flow_ranOff : Int32} {vT_flow_uneven : Int32} {vT_flow_keptInAll : Int32} {vT_flow_leakedInAll : Int32} {vT_flow_ranOffInAll : Int32} {cT_flow_comes : Nat → Int32} {cT_flow_keeps : Nat → Int32} {cT_flow_holds : Nat → Int32} {cT_flow_goesOn : Nat → Int32} {cT_flow_width : Nat → Int32} {cT_told : Nat → Int32} {x3 x4 x5 x6 x10 x11 x14 : Int32} {h b e o : Nat} (hV : VF f) (hC : CF f cT_present_kind cT_present_above cT_present_edge cT_present_pool cT_present_store cT_present_spot vT_present_basins vT_present_spring vT_present_hour vT_present_z) (hp1 : vT_pictured = 1) (hCp : CF f cT_picture_kind cT_picture_above cT_picture_edge cT_picture_pool cT_picture_store cT_picture_spot vT_picture_basins vT_picture_spring vT_picture_hour vT_picture_z) (hE : b ≠ 0 → bestP f h b e) (hx : b ≠ 0 → x14 = nI e) (ho : o ≤ 8) (hb : b < f.n) (hh1 : 1 ≤ h) (hh5 : h ≤ 5) (hl : f.hr + h ≤ 9999) : ∃ u : Int32 × Int32 × Int32 × Int32 × (Nat → Int32) × (Nat → Int32) × (Nat → Int32) × (Nat → Int32) × (Nat → Int32) × (Nat → Int32) × Int32 × Int32 × Int32 × Int32 × (Nat → Int32) × (Nat → Int32) × (Nat → Int32) × (Nat → Int32) × (Nat → Int32) × (Nat → Int32) × Int32 × Int32 × Int32 × Int32 × Int32 × Int32 × Int32 × (Nat → Int32) × (Nat → Int32) × (Nat → Int32) × (Nat → Int32) × (Nat → Int32) × (Nat → Int32), f_L_g x3 x4 x5 x6 (nI h) (nI b) (nI (f.gt h b)) x10 x11 x14 (nI o) vT_pictured vT_present_basins vT_present_spring vT_present_hour vT_present_z cT_present_kind cT_present_above cT_present_edge cT_present_pool cT_present_store cT_present_spot vT_picture_basins vT_picture_spring vT_picture_hour vT_picture_z cT_picture_kind cT_picture_above cT_picture_edge cT_picture_pool cT_picture_store cT_picture_spot vT_trial_basins vT_trial_spring vT_trial_hour vT_trial_z cT_trial_kind cT_trial_above cT_trial_edge cT_trial_pool cT_trial_store cT_trial_spot vT_flow_kept vT_flow_leaked vT_flow_ranOff vT_flow_uneven vT_flow_keptInAll vT_flow_leakedInAll vT_flow_ranOffInAll cT_flow_comes cT_flow_keeps cT_flow_holds cT_flow_goesOn cT_flow_width cT_told = some u ∧ (CF (f) u.2.2.2.2.1 u.2.2.2.2.2.1 u.2.2.2.2.2.2.1 u.2.2.2.2.2.2.2.1 u.2.2.2.2.2.2.2.2.1 u.2.2.2.2.2.2.2.2.2.1 u.1 u.2.1 u.2.2.1 u.2.2.2.1)
  := by
  have hn : f.n ≤ 10 := hV.1
  unfold f_L_g
  by_cases h0 : b = 0
  · rw [br_t1 (show nI b ≤ 0 by rw [h0]; decide)]
    exact ⟨_, rfl, hC⟩
  have hE := hE h0
  rw [hx h0, br_f1 (nI_nle (show 0 < b by omega) (by omega))]
  have hV1 : VF (f.setAb b e) := VF_Ab hV hE.1
  have hob : o % b < b := Nat.mod_lt _ (by omega)
  have hV2 : VF (f.setAb b (o % b)) := VF_Ab hV hob
  have hab := (hV.2.1 b hb).2.2.2.2 (by omega)
  refine bd_ex _ (S_join hV hC hb hE.1) (fun u1 h1 => ?_)
  obtain ⟨h11, h12⟩ := h1
  rw [br_t1 (by rw [h11]; exact n0_le _ (by omega)), n3_add]
  refine bd_ex _ (S_ahead hV1 h12 (by omega) hl hb) (fun u2 h2 => ?_)
  rw [gd_t (nI_ne 0 0 h0), show nI o - nI o / nI b * nI b = nI (o % b) from pk_rem (by omega) (by omega) (by omega)]
  refine bd_ex _ (S_join hV1 h12 hb hob) (fun u3 h3 => ?_)
  obtain ⟨h31, h32⟩ := h3
  rw [setAb2] at h32
  rw [br_t1 (by rw [h31]; exact congrArg nI fset_s)]
  refine bd_ex _ (S_ahead hV2 h32 (by omega) hl hb) (fun u4 h4 => ?_)
  rw [h2, h4]
  have g1 := gt_31 (VG_of hV1) (h := h) (b := b) (by omega) hb
  rw [br_f1 (nI_nlt (hE.2 (o % b) hob) (by have := hE.2 (o % b) hob; omega)), br_f1 (nI_nlt (best_usual_p hV h0 hb hE) (by have := best_usual_p hV h0 hb hE; omega))]
  refine bd_ex _ (S_undo hp1 hV hCp) (fun u5 h5 => ?_)
  obtain ⟨h51, h52⟩ := h5
  rw [br_t1 (by rw [h51]; exact n0_le _ (by have := hV.2.2.2.1; omega))]
  exact ⟨_, rfl, h52⟩
theorem P_h {f : Fo} {vT_pictured : Int32} {vT_present_basins : Int32} {vT_present_spring : Int32} {vT_present_hour : Int32} {vT_present_z : Int32} {cT_present_kind : Nat → Int32} {cT_present_above : Nat → Int32} {cT_present_edge : Nat → Int32} {cT_present_pool : Nat → Int32} {cT_present_store : Nat → Int32} {cT_present_spot : Nat → Int32} {vT_picture_basins : Int32} {vT_picture_spring : Int32} {vT_picture_hour : Int32} {vT_picture_z : Int32} {cT_picture_kind : Nat → Int32} {cT_picture_above : Nat → Int32} {cT_picture_edge : Nat → Int32} {cT_picture_pool : Nat → Int32} {cT_picture_store : Nat → Int32} {cT_picture_spot : Nat → Int32} {vT_trial_basins : Int32} {vT_trial_spring : Int32} {vT_trial_hour : Int32} {vT_trial_z : Int32} {cT_trial_kind : Nat → Int32} {cT_trial_above : Nat → Int32} {cT_trial_edge : Nat → Int32} {cT_trial_pool : Nat → Int32} {cT_trial_store : Nat → Int32} {cT_trial_spot : Nat → Int32} {vT_flow_kept : Int32} {vT_flow_leaked : Int32} {vT_flow_ranOff : Int32} {vT_flow_uneven : Int32} {vT_flow_keptInAll : Int32} {vT_flow_leakedInAll : Int32} {vT_flow_ranOffInAll : Int32} {cT_flow_comes : Nat → Int32} {cT_flow_keeps : Nat → Int32} {cT_flow_holds : Nat → Int32} {cT_flow_goesOn : Nat → Int32} {cT_flow_width : Nat → Int32} {cT_usual : Nat → Int32} {cT_told : Nat → Int32} {x3 x4 x5 x6 x8 x9 x10 x11 : Int32} {h : Nat} (hV : VF f) (hC : CF f cT_present_kind cT_present_above cT_present_edge cT_present_pool cT_present_store cT_present_spot vT_present_basins vT_present_spring vT_present_hour vT_present_z) (hp1 : vT_pictured = 1) (hCp : CF f cT_picture_kind cT_picture_above cT_picture_edge cT_picture_pool cT_picture_store cT_picture_spot vT_picture_basins vT_picture_spring vT_picture_hour vT_picture_z) (hh1 : 1 ≤ h) (hh5 : h ≤ 5) (hl : f.hr + h ≤ 9999) : ∃ u : Int32 × Int32 × Int32 × Int32 × (Nat → Int32) × (Nat → Int32) × (Nat → Int32) × (Nat → Int32) × (Nat → Int32) × (Nat → Int32) × Int32 × Int32 × Int32 × Int32 × (Nat → Int32) × (Nat → Int32) × (Nat → Int32) × (Nat → Int32) × (Nat → Int32) × (Nat → Int32) × Int32 × Int32 × Int32 × Int32 × Int32 × Int32 × Int32 × (Nat → Int32) × (Nat → Int32) × (Nat → Int32) × (Nat → Int32) × (Nat → Int32) × (Nat → Int32) × (Nat → Int32), f_L_h x3 x4 x5 x6 (nI h) x8 x9 x10 x11 vT_pictured vT_present_basins vT_present_spring vT_present_hour vT_present_z cT_present_kind cT_present_above cT_present_edge cT_present_pool cT_present_store cT_present_spot vT_picture_basins vT_picture_spring vT_picture_hour vT_picture_z cT_picture_kind cT_picture_above cT_picture_edge cT_picture_pool cT_picture_store cT_picture_spot vT_trial_basins vT_trial_spring vT_trial_hour vT_trial_z cT_trial_kind cT_trial_above cT_trial_edge cT_trial_pool cT_trial_store cT_trial_spot vT_flow_kept vT_flow_leaked vT_flow_ranOff vT_flow_uneven vT_flow_keptInAll vT_flow_leakedInAll vT_flow_ranOffInAll cT_flow_comes cT_flow_keeps cT_flow_holds cT_flow_goesOn cT_flow_width cT_usual cT_told = some u ∧ (CF (f) u.2.2.2.2.1 u.2.2.2.2.2.1 u.2.2.2.2.2.2.1 u.2.2.2.2.2.2.2.1 u.2.2.2.2.2.2.2.2.1 u.2.2.2.2.2.2.2.2.2.1 u.1 u.2.1 u.2.2.1 u.2.2.2.1)
  := by
  have hn : f.n ≤ 10 := hV.1
  unfold f_L_h
  refine bd_ex _ (S_deal hV hC hh1 (by omega) hl) (fun u1 h1 => ?_)
  rcases h1 with ⟨i, j, hi1, hij, hj, hab, h1, hg1, hg2⟩ | h1
  rotate_left
  · rw [br_t1 (by rw [h1]; decide)]
    exact ⟨_, rfl, hC⟩
  have hi : i < f.n := by omega
  have hai := (hV.2.1 i hi).2.2.2.2 (by omega)
  have hV1 : VF (f.setAb i (f.ab j)) := VF_Ab hV hab
  have hV2 : VF (swp f i j) := VF_Ab hV1 (show f.ab i < j by omega)
  rw [br_f1 (by rw [h1]; exact n0_nlt _ (by omega)), h1, show nI (10 * i + j) / (10 : Int32) = nI ((10 * i + j) / 10) from pk_div (d := 10) (by omega) (by decide) (by decide), show nI (10 * i + j) - nI ((10 * i + j) / 10) * (10 : Int32) = nI ((10 * i + j) % 10) from by rw [← pk_rem (a := 10 * i + j) (d := 10) (by omega) (by decide) (by decide), pk_div (a := 10 * i + j) (d := 10) (by omega) (by decide) (by decide)]; rfl, show (10 * i + j) / 10 = i by omega, show (10 * i + j) % 10 = j by omega, nm_q, nm_q, n3_add, n3_add]
  refine bd_ex _ (S_ahead hV hC (by omega) hl hi) (fun u2 h2 => ?_)
  refine bd_ex _ (S_ahead hV hC (by omega) hl hj) (fun u3 h3 => ?_)
  refine bd_ex _ (S_of1 hV hC hi) (fun u4 h4 => ?_)
  rw [abI_s _ (by omega)] at h4
  rw [br_f1 (show ¬ nI i < (1 : Int32) from nI_nlt (a := i) (b := 1) (by omega) (by omega)), br_f1 (nI_ge hij (by omega))]
  refine bd_ex _ (S_of1 hV hC hj) (fun u5 h5 => ?_)
  rw [abI_s _ (by omega)] at h5
  rw [h5]
  refine bd_ex _ (S_join hV hC hi hab) (fun u6 h6 => ?_)
  obtain ⟨h61, h62⟩ := h6
  rw [br_t1 (by rw [h61, h4]), h4]
  refine bd_ex _ (S_join hV1 h62 hj (show f.ab i < j by omega)) (fun u7 h7 => ?_)
  obtain ⟨h71, h72⟩ := h7
  have hab2 : (f.setAb i (f.ab j)).ab j < 2 ^ 31 := by
    have := (hV1.2.1 j hj).2.2.2.2 (by omega)
    omega
  rw [br_f1 (by rw [h71]; exact n0_nlt _ hab2)]
  refine bd_ex _ (S_ahead (f := swp f i j) hV2 h72 (by omega) hl hi) (fun u8 h8 => ?_)
  have b1 := gt_31 (VG_of hV2) (h := h) (b := i) (by omega) hi
  have b2 := gt_31 (VG_of hV2) (h := h) (b := j) (by omega) hj
  rw [br_f1 (by rw [h8, h2]; exact nI_ge hg1 b1)]
  refine bd_ex _ (S_ahead (f := swp f i j) hV2 h72 (by omega) hl hj) (fun u9 h9 => ?_)
  rw [br_f1 (by rw [h9, h3]; exact nI_ge hg2 b2)]
  refine bd_ex _ (S_undo hp1 hV hCp) (fun u10 h10 => ?_)
  obtain ⟨h101, h102⟩ := h10
  rw [br_t1 (by rw [h101]; exact n0_le _ (by have := hV.2.2.2.1; omega))]
  exact ⟨_, rfl, h102⟩
theorem P_i {f : Fo} {vT_present_basins : Int32} {vT_present_spring : Int32} {vT_present_hour : Int32} {vT_present_z : Int32} {cT_present_kind : Nat → Int32} {cT_present_above : Nat → Int32} {cT_present_edge : Nat → Int32} {cT_present_pool : Nat → Int32} {cT_present_store : Nat → Int32} {cT_present_spot : Nat → Int32} {vT_trial_basins : Int32} {vT_trial_spring : Int32} {vT_trial_hour : Int32} {vT_trial_z : Int32} {cT_trial_kind : Nat → Int32} {cT_trial_above : Nat → Int32} {cT_trial_edge : Nat → Int32} {cT_trial_pool : Nat → Int32} {cT_trial_store : Nat → Int32} {cT_trial_spot : Nat → Int32} {vT_flow_kept : Int32} {vT_flow_leaked : Int32} {vT_flow_ranOff : Int32} {vT_flow_uneven : Int32} {vT_flow_keptInAll : Int32} {vT_flow_leakedInAll : Int32} {vT_flow_ranOffInAll : Int32} {cT_flow_comes : Nat → Int32} {cT_flow_keeps : Nat → Int32} {cT_flow_holds : Nat → Int32} {cT_flow_goesOn : Nat → Int32} {cT_flow_width : Nat → Int32} {cT_usual : Nat → Int32} {cT_told : Nat → Int32} {x3 x4 x5 x6 x9 x10 x11 : Int32} {h b : Nat} (hV : VF f) (hC : CF f cT_present_kind cT_present_above cT_present_edge cT_present_pool cT_present_store cT_present_spot vT_present_basins vT_present_spring vT_present_hour vT_present_z) (hb : b < f.n) (hh1 : 1 ≤ h) (hh5 : h ≤ 5) (hl : f.hr + h ≤ 9999) : ∃ u : Int32 × Int32 × Int32 × Int32 × Int32 × (Nat → Int32) × (Nat → Int32) × (Nat → Int32) × (Nat → Int32) × (Nat → Int32) × (Nat → Int32) × Int32 × Int32 × Int32 × Int32 × Int32 × Int32 × Int32 × (Nat → Int32) × (Nat → Int32) × (Nat → Int32) × (Nat → Int32) × (Nat → Int32) × (Nat → Int32) × (Nat → Int32), f_L_i x3 x4 x5 x6 (nI h) (nI b) x9 x10 x11 vT_present_basins vT_present_spring vT_present_hour vT_present_z cT_present_kind cT_present_above cT_present_edge cT_present_pool cT_present_store cT_present_spot vT_trial_basins vT_trial_spring vT_trial_hour vT_trial_z cT_trial_kind cT_trial_above cT_trial_edge cT_trial_pool cT_trial_store cT_trial_spot vT_flow_kept vT_flow_leaked vT_flow_ranOff vT_flow_uneven vT_flow_keptInAll vT_flow_leakedInAll vT_flow_ranOffInAll cT_flow_comes cT_flow_keeps cT_flow_holds cT_flow_goesOn cT_flow_width cT_usual cT_told = some u ∧ (u.1 = setI (fun o => ¬ nI (f.gt h o) ≤ nI ((f.setKd b 1).gt h o)) f.n)
  := by
  unfold f_L_i
  refine bd_ex _ (S_hurt hV hC hb hh1 (by omega) hl) (fun u1 h1 => ?_)
  exact ⟨_, rfl, h1⟩
