/-! ===== cases: hold, status ===== -/
theorem within_m1 (x : Int32) : f_X7_within x (-1 : Int32) (6 : Int32) = some (kI (-1 ≤ x.toInt ∧ x.toInt ≤ 6)) := by
  unfold f_X7_within
  by_cases h1 : x < -1
  · rw [br_t1 h1, kI_f]
    rw [Int32.lt_iff_toInt_lt, show (-1 : Int32).toInt = -1 from rfl] at h1
    omega
  · rw [br_f1 h1]
    rw [Int32.lt_iff_toInt_lt, show (-1 : Int32).toInt = -1 from rfl] at h1
    by_cases h2 : 6 < x
    · rw [br_t1 h2, kI_f]
      rw [Int32.lt_iff_toInt_lt, show (6 : Int32).toInt = 6 from rfl] at h2
      omega
    · rw [br_f1 h2, kI_t]
      rw [Int32.lt_iff_toInt_lt, show (6 : Int32).toInt = 6 from rfl] at h2
      omega
theorem in_m1 (x : Int32) : f_X8_in x.toInt64 (-1 : Int64) (6 : Int64) = some (kI (-1 ≤ x.toInt ∧ x.toInt ≤ 6)) := by
  rw [in_e, Int32.toInt_toInt64]
  rfl
/-- the sum of what was told -/
def sumI (g : Nat → Int32) : Nat → Int32
  | 0 => 0
  | n + 1 => sumI g n + g n
theorem sumI_cong {g h : Nat → Int32} : ∀ {n : Nat}, (∀ k, k < n → g k = h k) → sumI g n = sumI h n
  | 0, _ => rfl
  | n + 1, e => by rw [sumI, sumI, sumI_cong (fun k hk => e k (by omega)), e n (by omega)]
theorem status7 (x : Int32) (t : Nat → Int32) : f_X7_status_L32 x FU ((0 : Int32), (0 : Int32), t) = some (sumI t 7, t) := by
  unfold f_X7_status_L32
  refine lp_go _ (fun i (s : Int32 × Int32 × (Nat → Int32)) => s.1 = sumI t i ∧ s.2.1 = nI i ∧ s.2.2 = t) 7 (fun o => o = some (sumI t 7, t)) ?_ ((0 : Int32), (0 : Int32), t) ⟨rfl, rfl, rfl⟩ (FU_gt (by decide))
  rintro i ⟨a, y, u⟩ hi ⟨h1, h2, h3⟩
  dsimp only at h1 h2 h3
  subst h1 h2 h3
  by_cases h : i = 7
  · left
    intro rc
    subst h
    show f_X7_status_L32_b x rc (sumI u 7) (nI 7) u = _
    unfold f_X7_status_L32_b
    exact br_t1 (by decide)
  · right
    refine ⟨by omega, (sumI u i + u i, nI i + 1, u), ⟨rfl, nI_1 i, rfl⟩, fun rc => ?_⟩
    show f_X7_status_L32_b x rc (sumI u i) (nI i) u = _
    unfold f_X7_status_L32_b
    rw [br_f1 (show ¬ (7 : Int32) ≤ nI i from nI_ge (a := i) (b := 7) (by omega) (by decide)), gd_t (vp_in_nI (by omega) (by decide)), nm_q, nI_clamp (by omega)]
theorem status8 (x : Int32) (t : Nat → Int32) (r : Int32) (hr : br (0 ≤ x) (gd (vp_in x 7) (some ((t x.toNatClampNeg), t))) (some (sumI t 7, t)) = some (r, t)) : f_X8_status_L24 x FU ((0 : Int32), (0 : Int32), t) = some (r, t) := by
  unfold f_X8_status_L24
  refine lp_go _ (fun i (s : Int32 × Int32 × (Nat → Int32)) => s.1 = sumI t i ∧ s.2.1 = nI i ∧ s.2.2 = t) 7 (fun o => o = some (r, t)) ?_ ((0 : Int32), (0 : Int32), t) ⟨rfl, rfl, rfl⟩ (FU_gt (by decide))
  rintro i ⟨a, y, u⟩ hi ⟨h1, h2, h3⟩
  dsimp only at h1 h2 h3
  subst h1 h2 h3
  by_cases h : i = 7
  · left
    intro rc
    subst h
    show f_X8_status_L24_b x rc (sumI u 7) (nI 7) u = _
    unfold f_X8_status_L24_b
    rw [br_t1 (show (7 : Int32) ≤ nI 7 by decide)]
    exact hr
  · right
    refine ⟨by omega, (sumI u i + u i, nI i + 1, u), ⟨rfl, nI_1 i, rfl⟩, fun rc => ?_⟩
    show f_X8_status_L24_b x rc (sumI u i) (nI i) u = _
    unfold f_X8_status_L24_b
    rw [br_f1 (show ¬ (7 : Int32) ≤ nI i from nI_ge (a := i) (b := 7) (by omega) (by decide)), gd_t (vp_in_nI (by omega) (by decide)), nm_q, nI_clamp (by omega)]
theorem L_status (x1 : Int32) (cT_present_kind : Nat → Int32) (cT_present_above : Nat → Int32) (cT_present_edge : Nat → Int32) (cT_present_pool : Nat → Int32) (cT_present_store : Nat → Int32) (cT_present_spot : Nat → Int32) (vT_present_basins : Int32) (vT_present_spring : Int32) (vT_present_hour : Int32) (vT_present_z : Int32) (vT_pictured : Int32) (cT_picture_kind : Nat → Int32) (cT_picture_above : Nat → Int32) (cT_picture_edge : Nat → Int32) (cT_picture_pool : Nat → Int32) (cT_picture_store : Nat → Int32) (cT_picture_spot : Nat → Int32) (vT_picture_basins : Int32) (vT_picture_spring : Int32) (vT_picture_hour : Int32) (vT_picture_z : Int32) (cT_told : Nat → Int32) (cT_tape_bytes : Nat → Int32) (vT_tape_size : Int32) (vT_sheets_bits : Nat → Int32) (vT_sheets_size : Nat → Int32) (cT_sheets_numbers : Nat → Nat → Int32) (cM_d : Nat → Int32) (vM_isKept : Int32) (cM_kept : Nat → Int32) (cM_found : Nat → Int32) (cM_tape : Nat → Int32) (vM_taped : Int32) (cM_bitsOf : Nat → Int32) (cM_sizeOf : Nat → Int32) (cM_number : Nat → Int32) (hI : Inv cT_present_kind cT_present_above cT_present_edge cT_present_pool cT_present_store cT_present_spot vT_present_basins vT_present_spring vT_present_hour vT_present_z vT_pictured cT_picture_kind cT_picture_above cT_picture_edge cT_picture_pool cT_picture_store cT_picture_spot vT_picture_basins vT_picture_spring vT_picture_hour vT_picture_z cT_told cT_tape_bytes vT_tape_size vT_sheets_bits vT_sheets_size cT_sheets_numbers cM_d vM_isKept cM_kept cM_found cM_tape vM_taped cM_bitsOf cM_sizeOf cM_number) : ∃ (u : Int32 × (Nat → Int32)) (v : Int32 × (Nat → Int32)), f_X7_status x1 cT_told = some u ∧ f_X8_status x1 cM_found = some v ∧ u.1 = v.1 ∧ Inv cT_present_kind cT_present_above cT_present_edge cT_present_pool cT_present_store cT_present_spot vT_present_basins vT_present_spring vT_present_hour vT_present_z vT_pictured cT_picture_kind cT_picture_above cT_picture_edge cT_picture_pool cT_picture_store cT_picture_spot vT_picture_basins vT_picture_spring vT_picture_hour vT_picture_z u.2 cT_tape_bytes vT_tape_size vT_sheets_bits vT_sheets_size cT_sheets_numbers cM_d vM_isKept cM_kept v.2 cM_tape vM_taped cM_bitsOf cM_sizeOf cM_number := by
  obtain ⟨hF, hI2, hT, hP, hS⟩ := hI
  unfold f_X7_status f_X8_status
  rw [bd_t (within_m1 x1), bd_t (in_m1 x1), br_kI, br_kI]
  by_cases hp : -1 ≤ x1.toInt ∧ x1.toInt ≤ 6
  · rw [br_t1 hp, br_t1 hp]
    by_cases h0 : x1 < 0
    · rw [br_t1 h0, status7, status8 x1 cM_found (sumI cM_found 7) (br_f1 (Int32.not_le.mpr h0))]
      exact ⟨_, _, rfl, rfl, sumI_cong hT, hF, hI2, hT, hP, hS⟩
    · have hj : isb 7 x1 := by
        rw [isb_iff (by decide)]
        rw [Int32.lt_iff_toInt_lt, show (0 : Int32).toInt = 0 from rfl] at h0
        omega
      obtain ⟨j, hj, rfl⟩ := hj
      have hv : vp_in (nI j) 7 := vp_in_nI hj (by decide)
      rw [br_f1 h0, gd_t hv, status8 (nI j) cM_found (cM_found (nI j).toNatClampNeg) (by rw [br_t1 (Int32.not_lt.mp h0), gd_t hv])]
      refine ⟨_, _, rfl, rfl, ?_, hF, hI2, hT, hP, hS⟩
      show cT_told (nI j).toNatClampNeg = cM_found (nI j).toNatClampNeg
      rw [nI_clamp (by omega)]
      exact hT j hj
  · rw [br_f1 hp, br_f1 hp, bd_t (tell0 _), bd_t (finds0 _)]
    exact ⟨_, _, rfl, rfl, rfl, hF, hI2, RT_tell hT 0, hP, hS⟩
theorem L_hold (x1 x2 : Int32) (cT_present_kind : Nat → Int32) (cT_present_above : Nat → Int32) (cT_present_edge : Nat → Int32) (cT_present_pool : Nat → Int32) (cT_present_store : Nat → Int32) (cT_present_spot : Nat → Int32) (vT_present_basins : Int32) (vT_present_spring : Int32) (vT_present_hour : Int32) (vT_present_z : Int32) (vT_pictured : Int32) (cT_picture_kind : Nat → Int32) (cT_picture_above : Nat → Int32) (cT_picture_edge : Nat → Int32) (cT_picture_pool : Nat → Int32) (cT_picture_store : Nat → Int32) (cT_picture_spot : Nat → Int32) (vT_picture_basins : Int32) (vT_picture_spring : Int32) (vT_picture_hour : Int32) (vT_picture_z : Int32) (cT_told : Nat → Int32) (cT_tape_bytes : Nat → Int32) (vT_tape_size : Int32) (vT_sheets_bits : Nat → Int32) (vT_sheets_size : Nat → Int32) (cT_sheets_numbers : Nat → Nat → Int32) (cM_d : Nat → Int32) (vM_isKept : Int32) (cM_kept : Nat → Int32) (cM_found : Nat → Int32) (cM_tape : Nat → Int32) (vM_taped : Int32) (cM_bitsOf : Nat → Int32) (cM_sizeOf : Nat → Int32) (cM_number : Nat → Int32) (hI : Inv cT_present_kind cT_present_above cT_present_edge cT_present_pool cT_present_store cT_present_spot vT_present_basins vT_present_spring vT_present_hour vT_present_z vT_pictured cT_picture_kind cT_picture_above cT_picture_edge cT_picture_pool cT_picture_store cT_picture_spot vT_picture_basins vT_picture_spring vT_picture_hour vT_picture_z cT_told cT_tape_bytes vT_tape_size vT_sheets_bits vT_sheets_size cT_sheets_numbers cM_d vM_isKept cM_kept cM_found cM_tape vM_taped cM_bitsOf cM_sizeOf cM_number) : ∃ (u : Int32 × (Nat → Int32) × (Nat → Int32)) (v : Int32 × (Nat → Int32) × (Nat → Int32)), f_X7_hold x1 x2 cT_told vT_present_basins cT_present_spot = some u ∧ f_X8_hold x1 x2 cM_found cM_d = some v ∧ u.1 = v.1 ∧ Inv cT_present_kind cT_present_above cT_present_edge cT_present_pool cT_present_store u.2.2 vT_present_basins vT_present_spring vT_present_hour vT_present_z vT_pictured cT_picture_kind cT_picture_above cT_picture_edge cT_picture_pool cT_picture_store cT_picture_spot vT_picture_basins vT_picture_spring vT_picture_hour vT_picture_z u.2.1 cT_tape_bytes vT_tape_size vT_sheets_bits vT_sheets_size cT_sheets_numbers v.2.2 vM_isKept cM_kept v.2.1 cM_tape vM_taped cM_bitsOf cM_sizeOf cM_number := by
  obtain ⟨⟨f, hV, hC, hM⟩, hI2, hT, hP, hS⟩ := hI
  have hn : f.n ≤ 10 := hV.1
  obtain rfl := hC.1
  have h1 : f_X7_within x1 (0 : Int32) (9 : Int32) = some (kI (rg 0 9 x1)) := within_n (by decide) (by decide) x1
  have h2 : f_X8_in x1.toInt64 (0 : Int64) (9 : Int64) = some (kI (rg 0 9 x1)) := in_n (by decide) rfl rfl x1
  have h3 : f_X8_in x2.toInt64 (-1 : Int64) (((cM_d (0 : Int32).toNatClampNeg) - (1 : Int32)).toInt64) = some (kI (x2 = -1 ∨ isb f.n x2)) := by
    rw [show cM_d (0 : Int32).toNatClampNeg = nI f.n from hM.1, in_e, kI_c]
    rw [isb_iff (by omega), Int32.toInt_toInt64, Int32.toInt_toInt64, show nI f.n - (1 : Int32) = nI f.n - nI 1 from rfl, pk_sub_toInt (by omega) (by decide), show (-1 : Int64).toInt = -1 from rfl, ← Int32.toInt_inj, show (-1 : Int32).toInt = -1 from rfl]
    omega
  unfold f_X7_hold f_X8_hold
  rw [bd_t h1, bd_t h2, br_kI, br_kI]
  by_cases hp : rg 0 9 x1
  · rw [br_t1 hp, br_t1 hp, bd_t h3, br_kI]
    obtain ⟨j, -, hj, rfl⟩ := hp
    have hv : vp_in (nI j) 10 := vp_in_nI (by omega) (by decide)
    have hix : (54 : Int32) + nI j = nI (54 + j) := nI_add 54 j
    have hv2 : vp_in ((54 : Int32) + nI j) 64 := by rw [hix]; exact vp_in_nI (by omega) (by decide)
    by_cases hm : x2 = -1
    · subst hm
      rw [br_t1 rfl, gd_t hv, br_t1 (Or.inl rfl), gd_t hv2, hix, nI_clamp (by omega), nI_clamp (by omega)]
      exact ⟨_, _, rfl, rfl, rfl, ⟨f.setSp j 0, VF_Sp hV j (Nat.zero_le _), CF_Sp hC j 0 rfl, MF_Sp hM hn (by omega) 0⟩, hI2, hT, hP, hS⟩
    · rw [br_f1 hm, bd_t (isB7 (n := f.n) (by omega) x2), br_kI]
      by_cases hb : isb f.n x2
      · rw [br_t1 hb, gd_t hv, br_t1 (Or.inr hb), gd_t hv2, hix, nI_clamp (by omega), nI_clamp (by omega)]
        obtain ⟨a, ha, rfl⟩ := hb
        exact ⟨_, _, rfl, rfl, rfl, ⟨f.setSp j (a + 1), VF_Sp hV j (by omega), CF_Sp hC j (a + 1) (by rw [← nI_1 a]; exact (Int32.add_sub_cancel _ _).symm), by rw [nI_1 a]; exact MF_Sp hM hn (by omega) (a + 1)⟩, hI2, hT, hP, hS⟩
      · rw [br_f1 hb, br_f1 (fun h => h.elim hm hb), bd_t (tell0 _), bd_t (finds0 _)]
        exact ⟨_, _, rfl, rfl, rfl, ⟨f, hV, hC, hM⟩, hI2, RT_tell hT 0, hP, hS⟩
  · rw [br_f1 hp, br_f1 hp, bd_t (tell0 _), bd_t (finds0 _)]
    exact ⟨_, _, rfl, rfl, rfl, ⟨f, hV, hC, hM⟩, hI2, RT_tell hT 0, hP, hS⟩
