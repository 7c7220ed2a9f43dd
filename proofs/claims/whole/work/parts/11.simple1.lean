/-! ===== cases: seed, wipe, tear, spring, status .. ===== -/
theorem tell0 (t : Nat → Int32) : f_X7_tell (-1000001 : Int32) t = some ((-1000001 : Int32), upd t 0 (t 0 + 1)) := tell_e 0 (by decide) t
theorem tell1 (t : Nat → Int32) : f_X7_tell (-1000002 : Int32) t = some ((-1000002 : Int32), upd t 1 (t 1 + 1)) := tell_e 1 (by decide) t
theorem tell2 (t : Nat → Int32) : f_X7_tell (-1000003 : Int32) t = some ((-1000003 : Int32), upd t 2 (t 2 + 1)) := tell_e 2 (by decide) t
theorem tell3 (t : Nat → Int32) : f_X7_tell (-1000004 : Int32) t = some ((-1000004 : Int32), upd t 3 (t 3 + 1)) := tell_e 3 (by decide) t
theorem tell4 (t : Nat → Int32) : f_X7_tell (-1000005 : Int32) t = some ((-1000005 : Int32), upd t 4 (t 4 + 1)) := tell_e 4 (by decide) t
theorem tell5 (t : Nat → Int32) : f_X7_tell (-1000006 : Int32) t = some ((-1000006 : Int32), upd t 5 (t 5 + 1)) := tell_e 5 (by decide) t
theorem tell6 (t : Nat → Int32) : f_X7_tell (-1000007 : Int32) t = some ((-1000007 : Int32), upd t 6 (t 6 + 1)) := tell_e 6 (by decide) t
theorem finds0 (t : Nat → Int32) : f_X8_finds (0 : Int32) t = some ((-1000001 : Int32), upd t 0 (t 0 + 1)) := finds_e 0 (by decide) t
theorem finds1 (t : Nat → Int32) : f_X8_finds (1 : Int32) t = some ((-1000002 : Int32), upd t 1 (t 1 + 1)) := finds_e 1 (by decide) t
theorem finds2 (t : Nat → Int32) : f_X8_finds (2 : Int32) t = some ((-1000003 : Int32), upd t 2 (t 2 + 1)) := finds_e 2 (by decide) t
theorem finds3 (t : Nat → Int32) : f_X8_finds (3 : Int32) t = some ((-1000004 : Int32), upd t 3 (t 3 + 1)) := finds_e 3 (by decide) t
theorem finds4 (t : Nat → Int32) : f_X8_finds (4 : Int32) t = some ((-1000005 : Int32), upd t 4 (t 4 + 1)) := finds_e 4 (by decide) t
theorem finds5 (t : Nat → Int32) : f_X8_finds (5 : Int32) t = some ((-1000006 : Int32), upd t 5 (t 5 + 1)) := finds_e 5 (by decide) t
theorem finds6 (t : Nat → Int32) : f_X8_finds (6 : Int32) t = some ((-1000007 : Int32), upd t 6 (t 6 + 1)) := finds_e 6 (by decide) t
theorem L_seed (x1 : Int32) (cT_present_kind : Nat → Int32) (cT_present_above : Nat → Int32) (cT_present_edge : Nat → Int32) (cT_present_pool : Nat → Int32) (cT_present_store : Nat → Int32) (cT_present_spot : Nat → Int32) (vT_present_basins : Int32) (vT_present_spring : Int32) (vT_present_hour : Int32) (vT_present_z : Int32) (vT_pictured : Int32) (cT_picture_kind : Nat → Int32) (cT_picture_above : Nat → Int32) (cT_picture_edge : Nat → Int32) (cT_picture_pool : Nat → Int32) (cT_picture_store : Nat → Int32) (cT_picture_spot : Nat → Int32) (vT_picture_basins : Int32) (vT_picture_spring : Int32) (vT_picture_hour : Int32) (vT_picture_z : Int32) (cT_told : Nat → Int32) (cT_tape_bytes : Nat → Int32) (vT_tape_size : Int32) (vT_sheets_bits : Nat → Int32) (vT_sheets_size : Nat → Int32) (cT_sheets_numbers : Nat → Nat → Int32) (cM_d : Nat → Int32) (vM_isKept : Int32) (cM_kept : Nat → Int32) (cM_found : Nat → Int32) (cM_tape : Nat → Int32) (vM_taped : Int32) (cM_bitsOf : Nat → Int32) (cM_sizeOf : Nat → Int32) (cM_number : Nat → Int32) (hI : Inv cT_present_kind cT_present_above cT_present_edge cT_present_pool cT_present_store cT_present_spot vT_present_basins vT_present_spring vT_present_hour vT_present_z vT_pictured cT_picture_kind cT_picture_above cT_picture_edge cT_picture_pool cT_picture_store cT_picture_spot vT_picture_basins vT_picture_spring vT_picture_hour vT_picture_z cT_told cT_tape_bytes vT_tape_size vT_sheets_bits vT_sheets_size cT_sheets_numbers cM_d vM_isKept cM_kept cM_found cM_tape vM_taped cM_bitsOf cM_sizeOf cM_number) : ∃ (u : Int32 × Int32) (v : Int32 × (Nat → Int32)), f_X7_seed x1 vT_present_z = some u ∧ f_X8_seed x1 cM_d = some v ∧ u.1 = v.1 ∧ Inv cT_present_kind cT_present_above cT_present_edge cT_present_pool cT_present_store cT_present_spot vT_present_basins vT_present_spring vT_present_hour u.2 vT_pictured cT_picture_kind cT_picture_above cT_picture_edge cT_picture_pool cT_picture_store cT_picture_spot vT_picture_basins vT_picture_spring vT_picture_hour vT_picture_z cT_told cT_tape_bytes vT_tape_size vT_sheets_bits vT_sheets_size cT_sheets_numbers v.2 vM_isKept cM_kept cM_found cM_tape vM_taped cM_bitsOf cM_sizeOf cM_number := by
  obtain ⟨⟨f, hV, hC, hM⟩, hI2, hT, hP, hS⟩ := hI
  exact ⟨_, _, rfl, rfl, hC.2.2.2.1.trans hM.2.2.1.symm, ⟨f.setZ x1, hV, ⟨hC.1, hC.2.1, hC.2.2.1, rfl, hC.2.2.2.2⟩, MF_Z hM x1⟩, hI2, hT, hP, hS⟩
theorem L_wipe (cT_present_kind : Nat → Int32) (cT_present_above : Nat → Int32) (cT_present_edge : Nat → Int32) (cT_present_pool : Nat → Int32) (cT_present_store : Nat → Int32) (cT_present_spot : Nat → Int32) (vT_present_basins : Int32) (vT_present_spring : Int32) (vT_present_hour : Int32) (vT_present_z : Int32) (vT_pictured : Int32) (cT_picture_kind : Nat → Int32) (cT_picture_above : Nat → Int32) (cT_picture_edge : Nat → Int32) (cT_picture_pool : Nat → Int32) (cT_picture_store : Nat → Int32) (cT_picture_spot : Nat → Int32) (vT_picture_basins : Int32) (vT_picture_spring : Int32) (vT_picture_hour : Int32) (vT_picture_z : Int32) (cT_told : Nat → Int32) (cT_tape_bytes : Nat → Int32) (vT_tape_size : Int32) (vT_sheets_bits : Nat → Int32) (vT_sheets_size : Nat → Int32) (cT_sheets_numbers : Nat → Nat → Int32) (cM_d : Nat → Int32) (vM_isKept : Int32) (cM_kept : Nat → Int32) (cM_found : Nat → Int32) (cM_tape : Nat → Int32) (vM_taped : Int32) (cM_bitsOf : Nat → Int32) (cM_sizeOf : Nat → Int32) (cM_number : Nat → Int32) (hI : Inv cT_present_kind cT_present_above cT_present_edge cT_present_pool cT_present_store cT_present_spot vT_present_basins vT_present_spring vT_present_hour vT_present_z vT_pictured cT_picture_kind cT_picture_above cT_picture_edge cT_picture_pool cT_picture_store cT_picture_spot vT_picture_basins vT_picture_spring vT_picture_hour vT_picture_z cT_told cT_tape_bytes vT_tape_size vT_sheets_bits vT_sheets_size cT_sheets_numbers cM_d vM_isKept cM_kept cM_found cM_tape vM_taped cM_bitsOf cM_sizeOf cM_number) : ∃ (u : Int32 × Int32) (v : Int32 × Int32), f_X7_wipe vT_tape_size = some u ∧ f_X8_wipe vM_taped = some v ∧ u.1 = v.1 ∧ Inv cT_present_kind cT_present_above cT_present_edge cT_present_pool cT_present_store cT_present_spot vT_present_basins vT_present_spring vT_present_hour vT_present_z vT_pictured cT_picture_kind cT_picture_above cT_picture_edge cT_picture_pool cT_picture_store cT_picture_spot vT_picture_basins vT_picture_spring vT_picture_hour vT_picture_z cT_told cT_tape_bytes u.2 vT_sheets_bits vT_sheets_size cT_sheets_numbers cM_d vM_isKept cM_kept cM_found cM_tape v.2 cM_bitsOf cM_sizeOf cM_number := by
  obtain ⟨hF, hI2, hT, ⟨n, hn, h1, h2, h3⟩, hS⟩ := hI
  exact ⟨_, _, rfl, rfl, h1.trans h2.symm, hF, hI2, hT, ⟨0, by omega, rfl, rfl, fun k hk => absurd hk (by omega)⟩, hS⟩
theorem L_tear (cT_present_kind : Nat → Int32) (cT_present_above : Nat → Int32) (cT_present_edge : Nat → Int32) (cT_present_pool : Nat → Int32) (cT_present_store : Nat → Int32) (cT_present_spot : Nat → Int32) (vT_present_basins : Int32) (vT_present_spring : Int32) (vT_present_hour : Int32) (vT_present_z : Int32) (vT_pictured : Int32) (cT_picture_kind : Nat → Int32) (cT_picture_above : Nat → Int32) (cT_picture_edge : Nat → Int32) (cT_picture_pool : Nat → Int32) (cT_picture_store : Nat → Int32) (cT_picture_spot : Nat → Int32) (vT_picture_basins : Int32) (vT_picture_spring : Int32) (vT_picture_hour : Int32) (vT_picture_z : Int32) (cT_told : Nat → Int32) (cT_tape_bytes : Nat → Int32) (vT_tape_size : Int32) (vT_sheets_bits : Nat → Int32) (vT_sheets_size : Nat → Int32) (cT_sheets_numbers : Nat → Nat → Int32) (cM_d : Nat → Int32) (vM_isKept : Int32) (cM_kept : Nat → Int32) (cM_found : Nat → Int32) (cM_tape : Nat → Int32) (vM_taped : Int32) (cM_bitsOf : Nat → Int32) (cM_sizeOf : Nat → Int32) (cM_number : Nat → Int32) (hI : Inv cT_present_kind cT_present_above cT_present_edge cT_present_pool cT_present_store cT_present_spot vT_present_basins vT_present_spring vT_present_hour vT_present_z vT_pictured cT_picture_kind cT_picture_above cT_picture_edge cT_picture_pool cT_picture_store cT_picture_spot vT_picture_basins vT_picture_spring vT_picture_hour vT_picture_z cT_told cT_tape_bytes vT_tape_size vT_sheets_bits vT_sheets_size cT_sheets_numbers cM_d vM_isKept cM_kept cM_found cM_tape vM_taped cM_bitsOf cM_sizeOf cM_number) : ∃ (u : Int32 × Int32) (v : Int32 × Int32), f_X7_tear vT_pictured = some u ∧ f_X8_tear vM_isKept = some v ∧ u.1 = v.1 ∧ Inv cT_present_kind cT_present_above cT_present_edge cT_present_pool cT_present_store cT_present_spot vT_present_basins vT_present_spring vT_present_hour vT_present_z u.2 cT_picture_kind cT_picture_above cT_picture_edge cT_picture_pool cT_picture_store cT_picture_spot vT_picture_basins vT_picture_spring vT_picture_hour vT_picture_z cT_told cT_tape_bytes vT_tape_size vT_sheets_bits vT_sheets_size cT_sheets_numbers cM_d v.2 cM_kept cM_found cM_tape vM_taped cM_bitsOf cM_sizeOf cM_number := by
  obtain ⟨hF, hI2, hT, hP, hS⟩ := hI
  unfold f_X7_tear f_X8_tear
  rcases hI2 with ⟨h1, h2⟩ | ⟨h1, h2, h3⟩
  · subst h1; subst h2
    rw [br_t1 rfl]
    exact ⟨_, _, rfl, rfl, rfl, hF, Or.inl ⟨rfl, rfl⟩, hT, hP, hS⟩
  · subst h1; subst h2
    rw [br_f1 (by decide)]
    exact ⟨_, _, rfl, rfl, rfl, hF, Or.inl ⟨rfl, rfl⟩, hT, hP, hS⟩
theorem L_spring (x1 : Int32) (cT_present_kind : Nat → Int32) (cT_present_above : Nat → Int32) (cT_present_edge : Nat → Int32) (cT_present_pool : Nat → Int32) (cT_present_store : Nat → Int32) (cT_present_spot : Nat → Int32) (vT_present_basins : Int32) (vT_present_spring : Int32) (vT_present_hour : Int32) (vT_present_z : Int32) (vT_pictured : Int32) (cT_picture_kind : Nat → Int32) (cT_picture_above : Nat → Int32) (cT_picture_edge : Nat → Int32) (cT_picture_pool : Nat → Int32) (cT_picture_store : Nat → Int32) (cT_picture_spot : Nat → Int32) (vT_picture_basins : Int32) (vT_picture_spring : Int32) (vT_picture_hour : Int32) (vT_picture_z : Int32) (cT_told : Nat → Int32) (cT_tape_bytes : Nat → Int32) (vT_tape_size : Int32) (vT_sheets_bits : Nat → Int32) (vT_sheets_size : Nat → Int32) (cT_sheets_numbers : Nat → Nat → Int32) (cM_d : Nat → Int32) (vM_isKept : Int32) (cM_kept : Nat → Int32) (cM_found : Nat → Int32) (cM_tape : Nat → Int32) (vM_taped : Int32) (cM_bitsOf : Nat → Int32) (cM_sizeOf : Nat → Int32) (cM_number : Nat → Int32) (hI : Inv cT_present_kind cT_present_above cT_present_edge cT_present_pool cT_present_store cT_present_spot vT_present_basins vT_present_spring vT_present_hour vT_present_z vT_pictured cT_picture_kind cT_picture_above cT_picture_edge cT_picture_pool cT_picture_store cT_picture_spot vT_picture_basins vT_picture_spring vT_picture_hour vT_picture_z cT_told cT_tape_bytes vT_tape_size vT_sheets_bits vT_sheets_size cT_sheets_numbers cM_d vM_isKept cM_kept cM_found cM_tape vM_taped cM_bitsOf cM_sizeOf cM_number) : ∃ (u : Int32 × Int32 × (Nat → Int32)) (v : Int32 × (Nat → Int32) × (Nat → Int32)), f_X7_spring x1 vT_present_spring cT_told = some u ∧ f_X8_spring x1 cM_d cM_found = some v ∧ u.1 = v.1 ∧ Inv cT_present_kind cT_present_above cT_present_edge cT_present_pool cT_present_store cT_present_spot vT_present_basins u.2.1 vT_present_hour vT_present_z vT_pictured cT_picture_kind cT_picture_above cT_picture_edge cT_picture_pool cT_picture_store cT_picture_spot vT_picture_basins vT_picture_spring vT_picture_hour vT_picture_z u.2.2 cT_tape_bytes vT_tape_size vT_sheets_bits vT_sheets_size cT_sheets_numbers v.2.1 vM_isKept cM_kept v.2.2 cM_tape vM_taped cM_bitsOf cM_sizeOf cM_number := by
  obtain ⟨⟨f, hV, hC, hM⟩, hI2, hT, hP, hS⟩ := hI
  have h1 : f_X7_within x1 (0 : Int32) (99999 : Int32) = some (kI (rg 0 99999 x1)) := within_n (by decide) (by decide) x1
  have h2 : f_X8_in x1.toInt64 (0 : Int64) (99999 : Int64) = some (kI (rg 0 99999 x1)) := in_n (by decide) rfl rfl x1
  unfold f_X7_spring f_X8_spring
  rw [bd_t h1, bd_t h2, br_kI, br_kI]
  by_cases hp : rg 0 99999 x1
  · rw [br_t1 hp, br_t1 hp]
    obtain ⟨j, -, hj2, rfl⟩ := hp
    exact ⟨_, _, rfl, rfl, hC.2.1.trans hM.2.2.2.1.symm, ⟨f.setSg j, ⟨hV.1, hV.2.1, hj2, hV.2.2.2⟩, ⟨hC.1, rfl, hC.2.2⟩, MF_Sg hM j⟩, hI2, hT, hP, hS⟩
  · rw [br_f1 hp, br_f1 hp, bd_t (tell0 _), bd_t (finds0 _)]
    exact ⟨_, _, rfl, rfl, rfl, ⟨f, hV, hC, hM⟩, hI2, RT_tell hT 0, hP, hS⟩
theorem L_join (x1 x2 : Int32) (cT_present_kind : Nat → Int32) (cT_present_above : Nat → Int32) (cT_present_edge : Nat → Int32) (cT_present_pool : Nat → Int32) (cT_present_store : Nat → Int32) (cT_present_spot : Nat → Int32) (vT_present_basins : Int32) (vT_present_spring : Int32) (vT_present_hour : Int32) (vT_present_z : Int32) (vT_pictured : Int32) (cT_picture_kind : Nat → Int32) (cT_picture_above : Nat → Int32) (cT_picture_edge : Nat → Int32) (cT_picture_pool : Nat → Int32) (cT_picture_store : Nat → Int32) (cT_picture_spot : Nat → Int32) (vT_picture_basins : Int32) (vT_picture_spring : Int32) (vT_picture_hour : Int32) (vT_picture_z : Int32) (cT_told : Nat → Int32) (cT_tape_bytes : Nat → Int32) (vT_tape_size : Int32) (vT_sheets_bits : Nat → Int32) (vT_sheets_size : Nat → Int32) (cT_sheets_numbers : Nat → Nat → Int32) (cM_d : Nat → Int32) (vM_isKept : Int32) (cM_kept : Nat → Int32) (cM_found : Nat → Int32) (cM_tape : Nat → Int32) (vM_taped : Int32) (cM_bitsOf : Nat → Int32) (cM_sizeOf : Nat → Int32) (cM_number : Nat → Int32) (hI : Inv cT_present_kind cT_present_above cT_present_edge cT_present_pool cT_present_store cT_present_spot vT_present_basins vT_present_spring vT_present_hour vT_present_z vT_pictured cT_picture_kind cT_picture_above cT_picture_edge cT_picture_pool cT_picture_store cT_picture_spot vT_picture_basins vT_picture_spring vT_picture_hour vT_picture_z cT_told cT_tape_bytes vT_tape_size vT_sheets_bits vT_sheets_size cT_sheets_numbers cM_d vM_isKept cM_kept cM_found cM_tape vM_taped cM_bitsOf cM_sizeOf cM_number) : ∃ (u : Int32 × (Nat → Int32) × (Nat → Int32)) (v : Int32 × (Nat → Int32) × (Nat → Int32)), f_X7_join x1 x2 vT_present_basins cT_told cT_present_above = some u ∧ f_X8_join x1 x2 cM_d cM_found = some v ∧ u.1 = v.1 ∧ Inv cT_present_kind u.2.2 cT_present_edge cT_present_pool cT_present_store cT_present_spot vT_present_basins vT_present_spring vT_present_hour vT_present_z vT_pictured cT_picture_kind cT_picture_above cT_picture_edge cT_picture_pool cT_picture_store cT_picture_spot vT_picture_basins vT_picture_spring vT_picture_hour vT_picture_z u.2.1 cT_tape_bytes vT_tape_size vT_sheets_bits vT_sheets_size cT_sheets_numbers v.2.1 vM_isKept cM_kept v.2.2 cM_tape vM_taped cM_bitsOf cM_sizeOf cM_number := by
  obtain ⟨⟨f, hV, hC, hM⟩, hI2, hT, hP, hS⟩ := hI
  have hn : f.n ≤ 10 := hV.1
  obtain rfl := hC.1
  unfold f_X7_join f_X8_join
  rw [bd_t (isB7 (n := f.n) (by omega) x1), bd_t (isB8 (n := f.n) (by omega) hM.1 x1), br_kI, br_kI]
  by_cases hp : isb f.n x1
  · rw [br_t1 hp, br_t1 hp]
    obtain ⟨j, hj, rfl⟩ := hp
    have hin : f_X8_in x2.toInt64 (0 : Int64) ((nI j - (1 : Int32)).toInt64) = some (kI (isb j x2)) := by
      rw [in_e, kI_c]
      rw [isb_iff (by omega), Int32.toInt_toInt64, Int32.toInt_toInt64, show nI j - (1 : Int32) = nI j - nI 1 from rfl, pk_sub_toInt (by omega) (by decide), show (0 : Int64).toInt = 0 from rfl]
      omega
    have hvp : vp_in (nI j) 10 := vp_in_nI (by omega) (by decide)
    by_cases hq : isb j x2
    · obtain ⟨a, ha, rfl⟩ := hq
      have hj0 : j ≠ 0 := by omega
      have hix : (4 : Int32) + (5 : Int32) * nI j + (1 : Int32) = nI (4 + 5 * j + 1) := by
        rw [show (4 : Int32) = nI 4 from rfl, show (5 : Int32) = nI 5 from rfl, show (1 : Int32) = nI 1 from rfl, pk_mul, nI_add, nI_add]
      rw [br_f1 (nI_pos (by omega)), br_t1 (nI_lt ha (by omega)), gd_t hvp, nm_q, gd_t hvp, br_f1 (nI_ne0 (by omega) (by omega)), bd_t hin, br_kI, br_t1 ⟨a, ha, rfl⟩]
      unfold f_X8_its f_X8_sets
      rw [hix, gd_t (vp_in_nI (by omega) (by decide)), gd_t (vp_in_nI (by omega) (by decide)), nI_clamp (by omega), nI_clamp (by omega)]
      exact ⟨_, _, rfl, rfl, (hC.2.2.2.2.1 j hj).2.1.trans (hM.2.2.2.2.1 j hj).2.1.symm, ⟨f.setAb j a, VF_Ab hV ha, CF_Ab hC hj0 a, MF_Ab hM hn hj hj0 a⟩, hI2, hT, hP, hS⟩
    · have e7 : ∀ {A : Type} (X Y Z : Option A), br (x2 < 0) X (br (x2 < nI j) Y Z) = br (isb j x2) Y (br (x2 < 0) X Z) := by
        intro A X Y Z
        rw [br_f1 hq]
        by_cases h0 : x2 < 0
        · rw [br_t1 h0, br_t1 h0]
        · rw [br_f1 h0, br_f1 h0, br_f1]
          intro h1
          apply hq
          rw [isb_iff (by omega)]
          rw [Int32.lt_iff_toInt_lt, nI_toInt (by omega)] at h1
          rw [Int32.lt_iff_toInt_lt, show (0 : Int32).toInt = 0 from rfl] at h0
          omega
      rw [e7, br_f1 hq, bd_t (tell0 _)]
      have e8 : br (nI j = 0) (bd (f_X8_finds (0 : Int32) cM_found) fun u5 => some (u5.1, cM_d, u5.2)) (bd (f_X8_in x2.toInt64 (0 : Int64) ((nI j - (1 : Int32)).toInt64)) fun u6 => br (u6 = 0) (bd (f_X8_finds (0 : Int32) cM_found) fun u10 => some (u10.1, cM_d, u10.2)) (bd (f_X8_its (nI j) (1 : Int32) cM_d) fun u8 => bd (f_X8_sets (nI j) (1 : Int32) x2 cM_d) fun u9 => some (u8, u9, cM_found))) = some ((-1000001 : Int32), cM_d, upd cM_found 0 (cM_found 0 + 1)) := by
        by_cases hj0 : nI j = 0
        · rw [br_t1 hj0, bd_t (finds0 _)]
        · rw [br_f1 hj0, bd_t hin, br_kI, br_f1 hq, bd_t (finds0 _)]
      rw [e8]
      refine ⟨(-1000001, upd cT_told 0 (cT_told 0 + 1), cT_present_above), _, ?_, rfl, rfl, ⟨f, hV, hC, hM⟩, hI2, RT_tell hT 0, hP, hS⟩
      by_cases h0 : x2 < 0
      · rw [br_t1 h0]
      · rw [br_f1 h0]
  · rw [br_f1 hp, br_f1 hp, bd_t (tell0 _), bd_t (finds0 _)]
    exact ⟨_, _, rfl, rfl, rfl, ⟨f, hV, hC, hM⟩, hI2, RT_tell hT 0, hP, hS⟩
