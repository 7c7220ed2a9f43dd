/-! ===== cases: steps, count ===== -/
theorem aboveOf_e {f : Fo} {kind above edge pool store spot : Nat → Int32} {basins spring hour z : Int32} (hV : VF f) (hC : CF f kind above edge pool store spot basins spring hour z) {b : Nat} (hb : b < f.n) : f_X2_aboveOf (nI b) (nI f.n) above = some (abI f.ab b) := by
  have hn := hV.1
  unfold f_X2_aboveOf
  rw [br_f1 (nI_pos (by omega)), br_f1 (nI_ge hb (by omega)), gd_t (vp_in_nI (by omega) (by decide)), nI_clamp (by omega), (hC.2.2.2.2.1 b hb).2.1]
theorem L_steps (x1 : Int32) (cT_present_kind : Nat → Int32) (cT_present_above : Nat → Int32) (cT_present_edge : Nat → Int32) (cT_present_pool : Nat → Int32) (cT_present_store : Nat → Int32) (cT_present_spot : Nat → Int32) (vT_present_basins : Int32) (vT_present_spring : Int32) (vT_present_hour : Int32) (vT_present_z : Int32) (vT_pictured : Int32) (cT_picture_kind : Nat → Int32) (cT_picture_above : Nat → Int32) (cT_picture_edge : Nat → Int32) (cT_picture_pool : Nat → Int32) (cT_picture_store : Nat → Int32) (cT_picture_spot : Nat → Int32) (vT_picture_basins : Int32) (vT_picture_spring : Int32) (vT_picture_hour : Int32) (vT_picture_z : Int32) (cT_told : Nat → Int32) (cT_tape_bytes : Nat → Int32) (vT_tape_size : Int32) (vT_sheets_bits : Nat → Int32) (vT_sheets_size : Nat → Int32) (cT_sheets_numbers : Nat → Nat → Int32) (cM_d : Nat → Int32) (vM_isKept : Int32) (cM_kept : Nat → Int32) (cM_found : Nat → Int32) (cM_tape : Nat → Int32) (vM_taped : Int32) (cM_bitsOf : Nat → Int32) (cM_sizeOf : Nat → Int32) (cM_number : Nat → Int32) (hI : Inv cT_present_kind cT_present_above cT_present_edge cT_present_pool cT_present_store cT_present_spot vT_present_basins vT_present_spring vT_present_hour vT_present_z vT_pictured cT_picture_kind cT_picture_above cT_picture_edge cT_picture_pool cT_picture_store cT_picture_spot vT_picture_basins vT_picture_spring vT_picture_hour vT_picture_z cT_told cT_tape_bytes vT_tape_size vT_sheets_bits vT_sheets_size cT_sheets_numbers cM_d vM_isKept cM_kept cM_found cM_tape vM_taped cM_bitsOf cM_sizeOf cM_number) : ∃ (u : Int32 × (Nat → Int32)) (v : Int32 × (Nat → Int32)), f_X7_steps x1 vT_present_basins cT_present_above cT_told = some u ∧ f_X8_steps x1 cM_d cM_found = some v ∧ u.1 = v.1 ∧ Inv cT_present_kind cT_present_above cT_present_edge cT_present_pool cT_present_store cT_present_spot vT_present_basins vT_present_spring vT_present_hour vT_present_z vT_pictured cT_picture_kind cT_picture_above cT_picture_edge cT_picture_pool cT_picture_store cT_picture_spot vT_picture_basins vT_picture_spring vT_picture_hour vT_picture_z u.2 cT_tape_bytes vT_tape_size vT_sheets_bits vT_sheets_size cT_sheets_numbers cM_d vM_isKept cM_kept v.2 cM_tape vM_taped cM_bitsOf cM_sizeOf cM_number := by
  obtain ⟨⟨f, hV, hC, hM⟩, hI2, hT, hP, hS⟩ := hI
  have hn : f.n ≤ 10 := hV.1
  obtain rfl := hC.1
  unfold f_X7_steps f_X8_steps
  rw [bd_t (isB7 (n := f.n) (by omega) x1), bd_t (isB8 (n := f.n) (by omega) hM.1 x1), br_kI, br_kI]
  by_cases hp : isb f.n x1
  · rw [br_t1 hp, br_t1 hp]
    obtain ⟨j, hj, rfl⟩ := hp
    rw [bd_t (aboveOf_e hV hC hj)]
    have hstep : ∀ (i : Nat) (s t : Int32 × Int32 × (Nat → Int32)), i ≤ 10 → (s.1 = nI i ∧ t.1 = nI i ∧ (∃ b, b + i ≤ j ∧ s.2.1 = abI f.ab b ∧ t.2.1 = nI b) ∧ s.2.2 = cT_told ∧ t.2.2 = cM_found) →
        (∃ a b : Int32 × (Nat → Int32), (a.1 = b.1 ∧ a.2 = cT_told ∧ b.2 = cM_found) ∧ (∀ rc, f_X7_steps_L26_b (nI j) (nI f.n) cT_present_above rc s.1 s.2.1 s.2.2 = some a) ∧ ∀ rc, f_X8_steps_L18_b (nI j) cM_d rc t.1 t.2.1 t.2.2 = some b) ∨
        (i < 10 ∧ ∃ s' t' : Int32 × Int32 × (Nat → Int32), (s'.1 = nI (i + 1) ∧ t'.1 = nI (i + 1) ∧ (∃ b, b + (i + 1) ≤ j ∧ s'.2.1 = abI f.ab b ∧ t'.2.1 = nI b) ∧ s'.2.2 = cT_told ∧ t'.2.2 = cM_found) ∧ (∀ rc, f_X7_steps_L26_b (nI j) (nI f.n) cT_present_above rc s.1 s.2.1 s.2.2 = rc s') ∧ ∀ rc, f_X8_steps_L18_b (nI j) cM_d rc t.1 t.2.1 t.2.2 = rc t') := by
      rintro i ⟨y, o1, t1⟩ ⟨y', o2, t2⟩ hi ⟨e1, e2, ⟨b, hb, e3, e4⟩, e5, e6⟩
      dsimp only at e1 e2 e3 e4 e5 e6
      subst e1 e2 e3 e4 e5 e6
      dsimp only
      unfold f_X7_steps_L26_b f_X8_steps_L18_b
      by_cases h0 : b = 0
      · left
        subst h0
        refine ⟨(nI i, t1), (nI i, t2), ⟨rfl, rfl, rfl⟩, fun rc => ?_, fun rc => ?_⟩
        · exact br_t1 (by unfold abI; rw [if_pos rfl]; decide)
        · exact br_t1 (by decide)
      · right
        have hbn : b < f.n := by omega
        have hab : f.ab b < b := (hV.2.1 b hbn).2.2.2.2 (by omega)
        have eab : abI f.ab b = nI (f.ab b) := by unfold abI; rw [if_neg h0]
        have hits : f_X8_its (nI b) (1 : Int32) cM_d = some (abI f.ab b) := (its_e (b := b) (c := 1) (by omega) cM_d).trans (congrArg some (hM.2.2.2.2.1 b hbn).2.1)
        refine ⟨by omega, (nI i + 1, abI f.ab (f.ab b), t1), (nI i + 1, abI f.ab b, t2), ⟨nI_1 i, nI_1 i, ⟨f.ab b, by omega, rfl, eab⟩, rfl, rfl⟩, fun rc => ?_, fun rc => ?_⟩
        · rw [eab, br_f1 (nI_pos (by omega)), br_f1 (show ¬ (10 : Int32) ≤ nI i from nI_ge (a := i) (b := 10) (by omega) (by decide)), bd_t (aboveOf_e hV hC (by omega))]
        · rw [br_f1 (nI_nle (by omega) (by omega)), bd_t hits]
    obtain ⟨a, b, e1, e2, e3, e4, e5⟩ := lp_two (fun rc v => f_X7_steps_L26_b (nI j) (nI f.n) cT_present_above rc v.1 v.2.1 v.2.2) (fun rc v => f_X8_steps_L18_b (nI j) cM_d rc v.1 v.2.1 v.2.2) _ 10 _ hstep ((0 : Int32), abI f.ab j, cT_told) ((0 : Int32), nI j, cM_found) ⟨rfl, rfl, ⟨j, by omega, rfl, rfl⟩, rfl, rfl⟩ (FU_gt (by decide))
    refine ⟨a, b, e1, e2, e3, ⟨f, hV, hC, hM⟩, hI2, ?_, hP, hS⟩
    rw [e4, e5]
    exact hT
  · rw [br_f1 hp, br_f1 hp, bd_t (tell0 _), bd_t (finds0 _)]
    exact ⟨_, _, rfl, rfl, rfl, ⟨f, hV, hC, hM⟩, hI2, RT_tell hT 0, hP, hS⟩
/-- the sum of a row, in the class -/
theorem sum7 {n : Nat} (hn : n ≤ 10) (row : Nat → Int32) : f_X2_sum row (nI n) = some (sumI row n) := by
  unfold f_X2_sum f_X2_sum_L4
  refine lp_go _ (fun i (s : Int32 × Int32) => s.1 = sumI row i ∧ s.2 = nI i) n (fun o => o = some (sumI row n)) ?_ ((0 : Int32), (0 : Int32)) ⟨rfl, rfl⟩ (FU_gt (by omega))
  rintro i ⟨a, y⟩ hi ⟨h1, h2⟩
  dsimp only at h1 h2
  subst h1 h2
  by_cases h : i = n
  · left
    intro rc
    subst h
    show f_X2_sum_L4_b row (nI i) rc (sumI row i) (nI i) = _
    unfold f_X2_sum_L4_b
    exact br_t1 (nI_le (Nat.le_refl _) (by omega))
  · right
    refine ⟨by omega, (sumI row i + row i, nI i + 1), ⟨rfl, nI_1 i⟩, fun rc => ?_⟩
    show f_X2_sum_L4_b row (nI n) rc (sumI row i) (nI i) = _
    unfold f_X2_sum_L4_b
    rw [br_f1 (nI_ge (by omega) (by omega)), gd_t (vp_in_nI (by omega) (by decide)), nm_q, nI_clamp (by omega)]
theorem sum8 {n : Nat} (hn : n ≤ 10) {c : Nat} (hc : c ≤ 4) {d : Nat → Int32} (hd : d 0 = nI n) : f_X8_sumOf (nI c) d = some (sumI (fun b => d (4 + 5 * b + c)) n) := by
  unfold f_X8_sumOf f_X8_sumOf_L4
  refine lp_go _ (fun i (s : Int32 × Int32) => s.1 = sumI (fun b => d (4 + 5 * b + c)) i ∧ s.2 = nI i) n (fun o => o = some (sumI (fun b => d (4 + 5 * b + c)) n)) ?_ ((0 : Int32), (0 : Int32)) ⟨rfl, rfl⟩ (FU_gt (by omega))
  rintro i ⟨a, y⟩ hi ⟨h1, h2⟩
  dsimp only at h1 h2
  subst h1 h2
  by_cases h : i = n
  · left
    intro rc
    subst h
    show f_X8_sumOf_L4_b (nI c) d rc (sumI (fun b => d (4 + 5 * b + c)) i) (nI i) = _
    unfold f_X8_sumOf_L4_b
    rw [show d (0 : Int32).toNatClampNeg = nI i from hd]
    exact br_t1 (nI_le (Nat.le_refl _) (by omega))
  · right
    refine ⟨by omega, (sumI (fun b => d (4 + 5 * b + c)) i + d (4 + 5 * i + c), nI i + 1), ⟨rfl, nI_1 i⟩, fun rc => ?_⟩
    show f_X8_sumOf_L4_b (nI c) d rc (sumI (fun b => d (4 + 5 * b + c)) i) (nI i) = _
    unfold f_X8_sumOf_L4_b
    rw [show d (0 : Int32).toNatClampNeg = nI n from hd, br_f1 (nI_ge (by omega) (by omega)), bd_t (its_e (by omega) _), nm_q]
theorem spots_two {sp : Nat → Nat} {n : Nat} (hn : n ≤ 10) (hsp : ∀ k, k < 10 → sp k ≤ n) {spot d : Nat → Int32} (h1 : ∀ k, k < 10 → spot k = nI (sp k) - 1) (h2 : ∀ k, k < 10 → d (54 + k) = nI (sp k)) : ∃ r, f_X2_spotsInUse spot = some r ∧ f_X8_holding d = some r := by
  have hstep : ∀ (i : Nat) (s t : Int32 × Int32), i ≤ 10 → (s.1 = t.1 ∧ s.2 = nI i ∧ t.2 = nI i) →
      (∃ a b : Int32, a = b ∧ (∀ rc, f_X2_spotsInUse_L4_b spot rc s.1 s.2 = some a) ∧ ∀ rc, f_X8_holding_L4_b d rc t.1 t.2 = some b) ∨
      (i < 10 ∧ ∃ s' t' : Int32 × Int32, (s'.1 = t'.1 ∧ s'.2 = nI (i + 1) ∧ t'.2 = nI (i + 1)) ∧ (∀ rc, f_X2_spotsInUse_L4_b spot rc s.1 s.2 = rc s') ∧ ∀ rc, f_X8_holding_L4_b d rc t.1 t.2 = rc t') := by
    rintro i ⟨y, o1⟩ ⟨y', o2⟩ hi ⟨e1, e2, e3⟩
    dsimp only at e1 e2 e3
    subst e1 e2 e3
    dsimp only
    unfold f_X2_spotsInUse_L4_b f_X8_holding_L4_b
    by_cases h : i = 10
    · left
      subst h
      exact ⟨y, y, rfl, fun rc => br_t1 (by decide), fun rc => br_t1 (by decide)⟩
    · right
      have hi10 : i < 10 := by omega
      have hle : ¬ (10 : Int32) ≤ nI i := nI_ge (a := i) (b := 10) hi10 (by decide)
      have hix : (54 : Int32) + nI i = nI (54 + i) := nI_add 54 i
      have hs := hsp i hi10
      have e1 : nI (sp i) - 1 = -1 ↔ sp i = 0 := by
        rw [← Int32.toInt_inj, show nI (sp i) - (1 : Int32) = nI (sp i) - nI 1 from rfl, pk_sub_toInt (by omega) (by decide), show (-1 : Int32).toInt = -1 from rfl]
        omega
      by_cases h0 : sp i = 0
      · refine ⟨hi10, (y, nI i + 1), (y + 0, nI i + 1), ⟨(Int32.add_zero y).symm, nI_1 i, nI_1 i⟩, fun rc => ?_, fun rc => ?_⟩
        · rw [br_f1 hle, gd_t (vp_in_nI hi10 (by decide)), nI_clamp (by omega), h1 i hi10, br_t1 (e1.mpr h0)]
        · rw [br_f1 hle, hix, gd_t (vp_in_nI (by omega) (by decide)), nI_clamp (by omega), h2 i hi10, br_t1 (by rw [h0]; decide), nm_q]
      · refine ⟨hi10, (y + 1, nI i + 1), (y + 1, nI i + 1), ⟨rfl, nI_1 i, nI_1 i⟩, fun rc => ?_, fun rc => ?_⟩
        · rw [br_f1 hle, gd_t (vp_in_nI hi10 (by decide)), nI_clamp (by omega), h1 i hi10, br_f1 (fun h => h0 (e1.mp h))]
        · rw [br_f1 hle, hix, gd_t (vp_in_nI (by omega) (by decide)), nI_clamp (by omega), h2 i hi10, br_f1 (nI_nle (by omega) (by omega)), nm_q]
  obtain ⟨a, b, e1, e2, e3⟩ := lp_two (fun rc v => f_X2_spotsInUse_L4_b spot rc v.1 v.2) (fun rc v => f_X8_holding_L4_b d rc v.1 v.2) _ 10 _ hstep ((0 : Int32), (0 : Int32)) ((0 : Int32), (0 : Int32)) ⟨rfl, rfl, rfl⟩ (FU_gt (by decide))
  subst e3
  exact ⟨a, e1, e2⟩
theorem L_count (x1 : Int32) (cT_present_kind : Nat → Int32) (cT_present_above : Nat → Int32) (cT_present_edge : Nat → Int32) (cT_present_pool : Nat → Int32) (cT_present_store : Nat → Int32) (cT_present_spot : Nat → Int32) (vT_present_basins : Int32) (vT_present_spring : Int32) (vT_present_hour : Int32) (vT_present_z : Int32) (vT_pictured : Int32) (cT_picture_kind : Nat → Int32) (cT_picture_above : Nat → Int32) (cT_picture_edge : Nat → Int32) (cT_picture_pool : Nat → Int32) (cT_picture_store : Nat → Int32) (cT_picture_spot : Nat → Int32) (vT_picture_basins : Int32) (vT_picture_spring : Int32) (vT_picture_hour : Int32) (vT_picture_z : Int32) (cT_told : Nat → Int32) (cT_tape_bytes : Nat → Int32) (vT_tape_size : Int32) (vT_sheets_bits : Nat → Int32) (vT_sheets_size : Nat → Int32) (cT_sheets_numbers : Nat → Nat → Int32) (cM_d : Nat → Int32) (vM_isKept : Int32) (cM_kept : Nat → Int32) (cM_found : Nat → Int32) (cM_tape : Nat → Int32) (vM_taped : Int32) (cM_bitsOf : Nat → Int32) (cM_sizeOf : Nat → Int32) (cM_number : Nat → Int32) (hI : Inv cT_present_kind cT_present_above cT_present_edge cT_present_pool cT_present_store cT_present_spot vT_present_basins vT_present_spring vT_present_hour vT_present_z vT_pictured cT_picture_kind cT_picture_above cT_picture_edge cT_picture_pool cT_picture_store cT_picture_spot vT_picture_basins vT_picture_spring vT_picture_hour vT_picture_z cT_told cT_tape_bytes vT_tape_size vT_sheets_bits vT_sheets_size cT_sheets_numbers cM_d vM_isKept cM_kept cM_found cM_tape vM_taped cM_bitsOf cM_sizeOf cM_number) : ∃ (u : Int32 × (Nat → Int32)) (v : Int32 × (Nat → Int32)), f_X7_count x1 vT_present_basins vT_present_spring vT_present_hour vT_present_z cT_present_edge cT_present_pool vT_tape_size cT_present_spot cT_told = some u ∧ f_X8_count x1 vM_taped cM_d cM_found = some v ∧ u.1 = v.1 ∧ Inv cT_present_kind cT_present_above cT_present_edge cT_present_pool cT_present_store cT_present_spot vT_present_basins vT_present_spring vT_present_hour vT_present_z vT_pictured cT_picture_kind cT_picture_above cT_picture_edge cT_picture_pool cT_picture_store cT_picture_spot vT_picture_basins vT_picture_spring vT_picture_hour vT_picture_z u.2 cT_tape_bytes vT_tape_size vT_sheets_bits vT_sheets_size cT_sheets_numbers cM_d vM_isKept cM_kept v.2 cM_tape vM_taped cM_bitsOf cM_sizeOf cM_number := by
  obtain ⟨⟨f, hV, hC, hM⟩, hI2, hT, ⟨n, hn120, hp1, hp2, hp3⟩, hS⟩ := hI
  have hn : f.n ≤ 10 := hV.1
  obtain rfl := hC.1
  obtain ⟨r, hr1, hr2⟩ := spots_two hn hV.2.2.2.2 hC.2.2.2.2.2 hM.2.2.2.2.2
  have e2 : f_X8_sumOf (2 : Int32) cM_d = some (sumI cT_present_edge f.n) := (sum8 (c := 2) hn (by decide) hM.1).trans (congrArg some (sumI_cong fun k hk => (hM.2.2.2.2.1 k hk).2.2.1.trans (hC.2.2.2.2.1 k hk).2.2.1.symm))
  have e3 : f_X8_sumOf (3 : Int32) cM_d = some (sumI cT_present_pool f.n) := (sum8 (c := 3) hn (by decide) hM.1).trans (congrArg some (sumI_cong fun k hk => (hM.2.2.2.2.1 k hk).2.2.2.1.trans (hC.2.2.2.2.1 k hk).2.2.2.1.symm))
  unfold f_X7_count f_X8_count
  rw [bd_t hr1, bd_t hr2, bd_t (sum7 hn _), bd_t (sum7 hn _), bd_t e2, bd_t e3, bd_t (tell0 _), bd_t (finds0 _)]
  have hInv : Inv cT_present_kind cT_present_above cT_present_edge cT_present_pool cT_present_store cT_present_spot (nI f.n) vT_present_spring vT_present_hour vT_present_z vT_pictured cT_picture_kind cT_picture_above cT_picture_edge cT_picture_pool cT_picture_store cT_picture_spot vT_picture_basins vT_picture_spring vT_picture_hour vT_picture_z cT_told cT_tape_bytes vT_tape_size vT_sheets_bits vT_sheets_size cT_sheets_numbers cM_d vM_isKept cM_kept cM_found cM_tape vM_taped cM_bitsOf cM_sizeOf cM_number := ⟨⟨f, hV, hC, hM⟩, hI2, hT, ⟨n, hn120, hp1, hp2, hp3⟩, hS⟩
  by_cases c0 : x1 = 0
  · rw [br_t1 c0, br_t1 c0]
    exact ⟨_, _, rfl, rfl, hC.2.2.1.trans hM.2.1.symm, hInv⟩
  by_cases c1 : x1 = 1
  · rw [br_f1 c0, br_t1 c1, br_f1 c0, br_t1 c1]
    exact ⟨_, _, rfl, rfl, hM.1.symm, hInv⟩
  by_cases c2 : x1 = 2
  · rw [br_f1 c0, br_f1 c1, br_t1 c2, br_f1 c0, br_f1 c1, br_t1 c2]
    exact ⟨_, _, rfl, rfl, rfl, hInv⟩
  by_cases c3 : x1 = 3
  · rw [br_f1 c0, br_f1 c1, br_f1 c2, br_t1 c3, br_f1 c0, br_f1 c1, br_f1 c2, br_t1 c3]
    exact ⟨_, _, rfl, rfl, rfl, hInv⟩
  by_cases c4 : x1 = 4
  · rw [br_f1 c0, br_f1 c1, br_f1 c2, br_f1 c3, br_t1 c4, br_f1 c0, br_f1 c1, br_f1 c2, br_f1 c3, br_t1 c4]
    exact ⟨_, _, rfl, rfl, hC.2.1.trans hM.2.2.2.1.symm, hInv⟩
  by_cases c5 : x1 = 5
  · rw [br_f1 c0, br_f1 c1, br_f1 c2, br_f1 c3, br_f1 c4, br_t1 c5, br_f1 c0, br_f1 c1, br_f1 c2, br_f1 c3, br_f1 c4, br_t1 c5]
    exact ⟨_, _, rfl, rfl, hp1.trans hp2.symm, hInv⟩
  by_cases c6 : x1 = 6
  · rw [br_f1 c0, br_f1 c1, br_f1 c2, br_f1 c3, br_f1 c4, br_f1 c5, br_t1 c6, br_f1 c0, br_f1 c1, br_f1 c2, br_f1 c3, br_f1 c4, br_f1 c5, br_t1 c6]
    exact ⟨_, _, rfl, rfl, hC.2.2.2.1.trans hM.2.2.1.symm, hInv⟩
  by_cases c7 : x1 = 7
  · rw [br_f1 c0, br_f1 c1, br_f1 c2, br_f1 c3, br_f1 c4, br_f1 c5, br_f1 c6, br_t1 c7, br_f1 c0, br_f1 c1, br_f1 c2, br_f1 c3, br_f1 c4, br_f1 c5, br_f1 c6, br_t1 c7]
    exact ⟨_, _, rfl, rfl, rfl, hInv⟩
  rw [br_f1 c0, br_f1 c1, br_f1 c2, br_f1 c3, br_f1 c4, br_f1 c5, br_f1 c6, br_f1 c7, br_f1 c0, br_f1 c1, br_f1 c2, br_f1 c3, br_f1 c4, br_f1 c5, br_f1 c6, br_f1 c7]
  exact ⟨_, _, rfl, rfl, rfl, hInv.1, hI2, RT_tell hT 0, hInv.2.2.2.1, hS⟩
