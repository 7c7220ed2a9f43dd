/-! ===== cases sheet, load, judge, as, feed, copy ===== -/
theorem br4_t {α : Type} {x : Int32} {J Z : Option α} (h : x = 0 ∨ x = 8 ∨ x = 16 ∨ x = 32) : br (x = 0) J (br (x = 8) J (br (x = 16) J (br (x = 32) J Z))) = J := by
  rcases h with h | h | h | h
  · rw [br_t1 h]
  · rw [h, br_f1 (by decide), br_t1 rfl]
  · rw [h, br_f1 (by decide), br_f1 (by decide), br_t1 rfl]
  · rw [h, br_f1 (by decide), br_f1 (by decide), br_f1 (by decide), br_t1 rfl]
theorem br4_f {α : Type} {x : Int32} {J Z : Option α} (h : ¬ (x = 0 ∨ x = 8 ∨ x = 16 ∨ x = 32)) : br (x = 0) J (br (x = 8) J (br (x = 16) J (br (x = 32) J Z))) = Z := by
  rw [br_f1 (fun q => h (Or.inl q)), br_f1 (fun q => h (Or.inr (Or.inl q))), br_f1 (fun q => h (Or.inr (Or.inr (Or.inl q)))), br_f1 (fun q => h (Or.inr (Or.inr (Or.inr q))))]
theorem L_sheet (x1 x2 x3 : Int32) (cT_present_kind : Nat → Int32) (cT_present_above : Nat → Int32) (cT_present_edge : Nat → Int32) (cT_present_pool : Nat → Int32) (cT_present_store : Nat → Int32) (cT_present_spot : Nat → Int32) (vT_present_basins : Int32) (vT_present_spring : Int32) (vT_present_hour : Int32) (vT_present_z : Int32) (vT_pictured : Int32) (cT_picture_kind : Nat → Int32) (cT_picture_above : Nat → Int32) (cT_picture_edge : Nat → Int32) (cT_picture_pool : Nat → Int32) (cT_picture_store : Nat → Int32) (cT_picture_spot : Nat → Int32) (vT_picture_basins : Int32) (vT_picture_spring : Int32) (vT_picture_hour : Int32) (vT_picture_z : Int32) (cT_told : Nat → Int32) (cT_tape_bytes : Nat → Int32) (vT_tape_size : Int32) (vT_sheets_bits : Nat → Int32) (vT_sheets_size : Nat → Int32) (cT_sheets_numbers : Nat → Nat → Int32) (cM_d : Nat → Int32) (vM_isKept : Int32) (cM_kept : Nat → Int32) (cM_found : Nat → Int32) (cM_tape : Nat → Int32) (vM_taped : Int32) (cM_bitsOf : Nat → Int32) (cM_sizeOf : Nat → Int32) (cM_number : Nat → Int32) (hI : Inv cT_present_kind cT_present_above cT_present_edge cT_present_pool cT_present_store cT_present_spot vT_present_basins vT_present_spring vT_present_hour vT_present_z vT_pictured cT_picture_kind cT_picture_above cT_picture_edge cT_picture_pool cT_picture_store cT_picture_spot vT_picture_basins vT_picture_spring vT_picture_hour vT_picture_z cT_told cT_tape_bytes vT_tape_size vT_sheets_bits vT_sheets_size cT_sheets_numbers cM_d vM_isKept cM_kept cM_found cM_tape vM_taped cM_bitsOf cM_sizeOf cM_number) : ∃ (u : Int32 × (Nat → Int32) × (Nat → Int32) × (Nat → Nat → Int32) × (Nat → Int32)) (v : Int32 × (Nat → Int32) × (Nat → Int32) × (Nat → Int32) × (Nat → Int32)), f_X7_sheet x1 x2 x3 vT_pictured vT_sheets_bits vT_sheets_size cT_sheets_numbers cT_told = some u ∧ f_X8_sheet x1 x2 x3 cM_found cM_bitsOf cM_sizeOf cM_number = some v ∧ u.1 = v.1 ∧ Inv cT_present_kind cT_present_above cT_present_edge cT_present_pool cT_present_store cT_present_spot vT_present_basins vT_present_spring vT_present_hour vT_present_z vT_pictured cT_picture_kind cT_picture_above cT_picture_edge cT_picture_pool cT_picture_store cT_picture_spot vT_picture_basins vT_picture_spring vT_picture_hour vT_picture_z u.2.2.2.2 cT_tape_bytes vT_tape_size u.2.1 u.2.2.1 u.2.2.2.1 cM_d vM_isKept cM_kept v.2.1 cM_tape vM_taped v.2.2.1 v.2.2.2.1 v.2.2.2.2 := by
  obtain ⟨hF, hI2, hT, hP, hS⟩ := hI
  unfold f_X7_sheet f_X8_sheet
  rw [bd_t (isSheet8 x1), br_kI]
  by_cases hs : rg 0 3 x1
  · rw [br_t1 (k_sheet_iff.mpr hs), br_t1 hs]
    by_cases hb : x2 = 0 ∨ x2 = 8 ∨ x2 = 16 ∨ x2 = 32
    · rw [br4_t hb, br4_t hb]
      obtain ⟨t, -, ht3, rfl⟩ := hs
      have ht : t < 4 := by omega
      have vt : vp_in (nI t) 4 := vp_in_nI ht (by decide)
      unfold f_X7_sheet_J41 f_X8_sheet_J35
      by_cases h0 : 0 ≤ x3
      · rw [br_t1 h0, br_t1 h0]
        by_cases h40 : x3 ≤ 40
        · obtain ⟨j, hj, rfl⟩ := nI_of2 (M := 40) (n := 40) (by decide) (Int32.not_lt.mpr h0) h40
          rw [br_t1 h40, br_t1 h40, gd_t vt, gd_t vt, gd_t vt, nI_clamp (by omega)]
          by_cases hz : x2 = 0
          · rw [br_t1 hz, br_t1 hz]
            obtain ⟨c, hc, hc0⟩ := begin_e x2 0 (vT_sheets_bits t) (vT_sheets_size t) (cT_sheets_numbers t)
            obtain ⟨c2, h8, h81, h82⟩ := zero8 ht x2 (nI j) cM_found (upd cM_bitsOf t x2) (upd cM_sizeOf t 0) cM_number
            rw [bd_t hc, h8]
            refine ⟨_, _, rfl, rfl, ?_, hF, hI2, hT, hP, RS_begin (n := 0) hS ht (by decide) hb hc0 h81 h82⟩
            dsimp only
            rw [va_up_s, pk_us]
          · rw [br_f1 hz, br_f1 hz]
            obtain ⟨c, hc, hc0⟩ := begin_e x2 (nI j) (vT_sheets_bits t) (vT_sheets_size t) (cT_sheets_numbers t)
            obtain ⟨c2, h8, h81, h82⟩ := zero8 ht x2 (nI j) cM_found (upd cM_bitsOf t x2) (upd cM_sizeOf t (nI j)) cM_number
            rw [bd_t hc, h8]
            refine ⟨_, _, rfl, rfl, ?_, hF, hI2, hT, hP, RS_begin (n := j) hS ht hj hb hc0 h81 h82⟩
            dsimp only
            rw [va_up_s, pk_us]
        · rw [br_f1 h40, br_f1 h40, bd_t (tell0 _), bd_t (finds0 _)]
          exact ⟨_, _, rfl, rfl, rfl, hF, hI2, RT_tell hT 0, hP, hS⟩
      · rw [br_f1 h0, br_f1 h0, bd_t (tell6 _), bd_t (finds6 _)]
        exact ⟨_, _, rfl, rfl, rfl, hF, hI2, RT_tell hT 6, hP, hS⟩
    · rw [br4_f hb, br4_f hb, bd_t (tell0 _), bd_t (finds0 _)]
      exact ⟨_, _, rfl, rfl, rfl, hF, hI2, RT_tell hT 0, hP, hS⟩
  · rw [br_f1 (fun h => hs (k_sheet_iff.mp h)), br_f1 hs, bd_t (tell0 _), bd_t (finds0 _)]
    exact ⟨_, _, rfl, rfl, rfl, hF, hI2, RT_tell hT 0, hP, hS⟩
theorem L_load (x1 : Int32) (cT_present_kind : Nat → Int32) (cT_present_above : Nat → Int32) (cT_present_edge : Nat → Int32) (cT_present_pool : Nat → Int32) (cT_present_store : Nat → Int32) (cT_present_spot : Nat → Int32) (vT_present_basins : Int32) (vT_present_spring : Int32) (vT_present_hour : Int32) (vT_present_z : Int32) (vT_pictured : Int32) (cT_picture_kind : Nat → Int32) (cT_picture_above : Nat → Int32) (cT_picture_edge : Nat → Int32) (cT_picture_pool : Nat → Int32) (cT_picture_store : Nat → Int32) (cT_picture_spot : Nat → Int32) (vT_picture_basins : Int32) (vT_picture_spring : Int32) (vT_picture_hour : Int32) (vT_picture_z : Int32) (cT_told : Nat → Int32) (cT_tape_bytes : Nat → Int32) (vT_tape_size : Int32) (vT_sheets_bits : Nat → Int32) (vT_sheets_size : Nat → Int32) (cT_sheets_numbers : Nat → Nat → Int32) (cM_d : Nat → Int32) (vM_isKept : Int32) (cM_kept : Nat → Int32) (cM_found : Nat → Int32) (cM_tape : Nat → Int32) (vM_taped : Int32) (cM_bitsOf : Nat → Int32) (cM_sizeOf : Nat → Int32) (cM_number : Nat → Int32) (hI : Inv cT_present_kind cT_present_above cT_present_edge cT_present_pool cT_present_store cT_present_spot vT_present_basins vT_present_spring vT_present_hour vT_present_z vT_pictured cT_picture_kind cT_picture_above cT_picture_edge cT_picture_pool cT_picture_store cT_picture_spot vT_picture_basins vT_picture_spring vT_picture_hour vT_picture_z cT_told cT_tape_bytes vT_tape_size vT_sheets_bits vT_sheets_size cT_sheets_numbers cM_d vM_isKept cM_kept cM_found cM_tape vM_taped cM_bitsOf cM_sizeOf cM_number) : ∃ (u : Int32 × (Nat → Int32) × (Nat → Int32)) (v : Int32 × (Nat → Int32) × (Nat → Int32)), f_X7_load x1 vT_pictured vT_sheets_bits vT_sheets_size cT_sheets_numbers vT_present_basins cT_present_edge cT_told = some u ∧ f_X8_load x1 cM_bitsOf cM_sizeOf cM_d cM_number cM_found = some v ∧ u.1 = v.1 ∧ Inv cT_present_kind cT_present_above u.2.1 cT_present_pool cT_present_store cT_present_spot vT_present_basins vT_present_spring vT_present_hour vT_present_z vT_pictured cT_picture_kind cT_picture_above cT_picture_edge cT_picture_pool cT_picture_store cT_picture_spot vT_picture_basins vT_picture_spring vT_picture_hour vT_picture_z u.2.2 cT_tape_bytes vT_tape_size vT_sheets_bits vT_sheets_size cT_sheets_numbers v.2.1 vM_isKept cM_kept v.2.2 cM_tape vM_taped cM_bitsOf cM_sizeOf cM_number := by
  obtain ⟨⟨f, hV, hC, hM⟩, hI2, hT, hP, hS⟩ := hI
  have hF : RF cT_present_kind cT_present_above cT_present_edge cT_present_pool cT_present_store cT_present_spot vT_present_basins vT_present_spring vT_present_hour vT_present_z cM_d := ⟨f, hV, hC, hM⟩
  have hn : f.n ≤ 10 := hV.1
  have hG : VG f := VG_of hV
  unfold f_X7_load f_X8_load
  by_cases hs : rg 0 3 x1
  rotate_left
  · rw [br_f1 (fun h => hs (k_sheet_iff.mp h)), bd_t (tell0 _), bd_t (whyNone_n hs _), br_f1 (by decide), bd_t (finds0 _)]
    exact ⟨_, _, rfl, rfl, rfl, hF, hI2, RT_tell hT 0, hP, hS⟩
  rw [br_t1 (k_sheet_iff.mpr hs)]
  obtain ⟨t, -, ht3, rfl⟩ := hs
  have ht : t < 4 := by omega
  have vt : vp_in (nI t) 4 := vp_in_nI ht (by decide)
  obtain ⟨hb1, hb2, ⟨n, hn40, hs1, hs2⟩, hnum⟩ := hS t ht
  rw [nI_clamp (by omega)]
  by_cases hb : vT_sheets_bits t = 0
  · rw [bd_t (isMissing_0 hb), br_f1 (by decide), bd_t (tell5 _), bd_t (whyNone_0 ht (hb1 ▸ hb)), br_f1 (by decide), bd_t (finds5 _)]
    exact ⟨_, _, rfl, rfl, rfl, hF, hI2, RT_tell hT 5, hP, hS⟩
  rw [bd_t (isMissing_1 hb), br_t1 rfl, bd_t (whyNone_1 ht (fun h => hb (hb1.trans h))), br_t1 (show (-1 : Int32) < 0 by decide)]
  obtain rfl := hC.1
  refine two_imp (fun u v => u.1 = v.1 ∧ RF cT_present_kind cT_present_above u.2.1 cT_present_pool cT_present_store cT_present_spot (nI f.n) vT_present_spring vT_present_hour vT_present_z v.2.1 ∧ RT u.2.2 v.2.2) ?_ (fun u v e => ⟨e.1, e.2.1, hI2, e.2.2, hP, hS⟩)
  unfold f_X7_load_L36 f_X8_load_L18
  refine lp_two4 f.n (fun i s t => s.1 = nI i ∧ s.2.1 = nI i ∧ t.1 = nI i ∧ s.2.2.2 = cT_told ∧ t.2.2 = cM_found ∧ ∃ g, VF g ∧ g.n = f.n ∧ CF g cT_present_kind cT_present_above s.2.2.1 cT_present_pool cT_present_store cT_present_spot (nI f.n) vT_present_spring vT_present_hour vT_present_z ∧ MF g t.2.1) ⟨rfl, rfl, rfl, rfl, rfl, f, hV, rfl, hC, hM⟩ (FU_gt (by omega)) ?_
  rintro i ⟨y3, y4, ed, tt⟩ ⟨z3, d1, fo⟩ hi ⟨a1, a2, a3, a4, a5, g, hVg, hgn, hCg, hMg⟩ rc rd
  dsimp only at a1 a2 a3 a4 a5 hCg hMg ⊢
  subst a1 a2 a3 a4 a5
  have hRF : RF cT_present_kind cT_present_above ed cT_present_pool cT_present_store cT_present_spot (nI f.n) vT_present_spring vT_present_hour vT_present_z d1 := ⟨g, hVg, hCg, hMg⟩
  unfold f_X7_load_L36_b f_X8_load_L18_b
  rw [show d1 (0 : Int32).toNatClampNeg = nI f.n from hMg.1.trans (congrArg nI hgn), gd_t vt, nI_clamp (show t < 2 ^ 31 by omega), hs1, hs2]
  by_cases hx : i = f.n
  · left
    subst hx
    rw [br_t1 (show nI f.n ≤ nI f.n from nI_le (Nat.le_refl _) (by omega)), br_t1 (show nI f.n ≤ nI f.n from nI_le (Nat.le_refl _) (by omega)), br_id]
    exact ⟨_, _, rfl, rfl, rfl, hRF, hT⟩
  have hi' : i < f.n := by omega
  rw [br_f1 (nI_ge hi' (by omega)), br_f1 (nI_ge hi' (by omega))]
  by_cases hz : n ≤ i
  · left
    rw [br_t1 (nI_le hz (by omega)), br_t1 (nI_le hz (by omega))]
    exact ⟨_, _, rfl, rfl, rfl, hRF, hT⟩
  have hi2 : i < n := by omega
  have v40 : vp_in (nI i) 40 := vp_in_nI (by omega) (by decide)
  have v160 : vp_in (nI (40 * t + i)) 160 := vp_in_nI (by omega) (by decide)
  have hN : cM_number (40 * t + i) = cT_sheets_numbers t i := (hnum i (by omega)).symm
  have h7 : f_X7_within (cT_sheets_numbers t i) (1 : Int32) (9 : Int32) = some (kI (rg 1 9 (cT_sheets_numbers t i))) := within_n (by decide) (by decide) _
  have h8 : f_X8_in (cT_sheets_numbers t i).toInt64 (1 : Int64) (9 : Int64) = some (kI (rg 1 9 (cT_sheets_numbers t i))) := in_n (by decide) rfl rfl _
  rw [br_f1 (nI_ge hi2 (by omega)), br_f1 (nI_ge hi2 (by omega)), gd_t v40, gd_t v40, gd_t (vp_in_nI (by omega) (by decide)), ix40, gd_t v160, gd_t v160, nI_clamp (show i < 2 ^ 31 by omega), nI_clamp (show 40 * t + i < 2 ^ 31 by omega), hN, bd_t h7, bd_t h8, br_kI, br_kI]
  by_cases hr : rg 1 9 (cT_sheets_numbers t i)
  · right
    obtain ⟨e, he1, he9, he⟩ := hr
    rw [br_t1 ⟨e, he1, he9, he⟩, br_t1 ⟨e, he1, he9, he⟩, bd_t (show f_X8_sets (nI i) (2 : Int32) _ d1 = _ from sets_e (c := 2) (by omega) _ _), he]
    refine ⟨hi', _, _, ?_, rfl, rfl⟩
    exact ⟨nI_1 i, nI_1 i, nI_1 i, rfl, rfl, g.setEd i e, VF_Ed hVg i he1 he9, hgn, CF_Ed hCg i e, MF_Ed hMg (by omega) (by omega) e⟩
  · left
    rw [br_f1 hr, br_f1 hr]
    exact ⟨_, _, rfl, rfl, rfl, hRF, hT⟩
theorem L_judge (x1 x2 : Int32) (cT_present_kind : Nat → Int32) (cT_present_above : Nat → Int32) (cT_present_edge : Nat → Int32) (cT_present_pool : Nat → Int32) (cT_present_store : Nat → Int32) (cT_present_spot : Nat → Int32) (vT_present_basins : Int32) (vT_present_spring : Int32) (vT_present_hour : Int32) (vT_present_z : Int32) (vT_pictured : Int32) (cT_picture_kind : Nat → Int32) (cT_picture_above : Nat → Int32) (cT_picture_edge : Nat → Int32) (cT_picture_pool : Nat → Int32) (cT_picture_store : Nat → Int32) (cT_picture_spot : Nat → Int32) (vT_picture_basins : Int32) (vT_picture_spring : Int32) (vT_picture_hour : Int32) (vT_picture_z : Int32) (cT_told : Nat → Int32) (cT_tape_bytes : Nat → Int32) (vT_tape_size : Int32) (vT_sheets_bits : Nat → Int32) (vT_sheets_size : Nat → Int32) (cT_sheets_numbers : Nat → Nat → Int32) (cM_d : Nat → Int32) (vM_isKept : Int32) (cM_kept : Nat → Int32) (cM_found : Nat → Int32) (cM_tape : Nat → Int32) (vM_taped : Int32) (cM_bitsOf : Nat → Int32) (cM_sizeOf : Nat → Int32) (cM_number : Nat → Int32) (vT_trial_basins : Int32) (vT_trial_spring : Int32) (vT_trial_hour : Int32) (vT_trial_z : Int32) (cT_trial_kind : Nat → Int32) (cT_trial_above : Nat → Int32) (cT_trial_edge : Nat → Int32) (cT_trial_pool : Nat → Int32) (cT_trial_store : Nat → Int32) (cT_trial_spot : Nat → Int32) (vT_flow_kept : Int32) (vT_flow_leaked : Int32) (vT_flow_ranOff : Int32) (vT_flow_uneven : Int32) (vT_flow_keptInAll : Int32) (vT_flow_leakedInAll : Int32) (vT_flow_ranOffInAll : Int32) (cT_flow_width : Nat → Int32) (cT_flow_goesOn : Nat → Int32) (cT_flow_comes : Nat → Int32) (cT_flow_keeps : Nat → Int32) (cT_flow_holds : Nat → Int32) (vM_leaked : Int32) (vM_keptAll : Int32) (vM_offAll : Int32) (cM_f : Nat → Int32) (cM_came : Nat → Int32) (cM_got : Nat → Int32) (cM_held : Nat → Int32) (cM_off : Nat → Int32) (hI : Inv cT_present_kind cT_present_above cT_present_edge cT_present_pool cT_present_store cT_present_spot vT_present_basins vT_present_spring vT_present_hour vT_present_z vT_pictured cT_picture_kind cT_picture_above cT_picture_edge cT_picture_pool cT_picture_store cT_picture_spot vT_picture_basins vT_picture_spring vT_picture_hour vT_picture_z cT_told cT_tape_bytes vT_tape_size vT_sheets_bits vT_sheets_size cT_sheets_numbers cM_d vM_isKept cM_kept cM_found cM_tape vM_taped cM_bitsOf cM_sizeOf cM_number) : ∃ (u : Int32 × Int32 × Int32 × Int32 × Int32 × (Nat → Int32) × (Nat → Int32) × (Nat → Int32) × (Nat → Int32) × (Nat → Int32) × (Nat → Int32) × Int32 × Int32 × Int32 × Int32 × Int32 × Int32 × Int32 × (Nat → Int32) × (Nat → Int32) × (Nat → Int32) × (Nat → Int32) × (Nat → Int32) × (Nat → Int32)) (v : Int32 × Int32 × Int32 × Int32 × (Nat → Int32) × (Nat → Int32) × (Nat → Int32) × (Nat → Int32) × (Nat → Int32) × (Nat → Int32) × (Nat → Int32)), f_X7_judge x1 x2 vT_pictured vT_sheets_bits vT_sheets_size cT_sheets_numbers vT_present_basins vT_present_spring vT_present_hour vT_present_z vT_trial_basins vT_trial_spring vT_trial_hour vT_trial_z cT_present_kind cT_trial_kind cT_present_above cT_trial_above cT_present_edge cT_trial_edge cT_present_pool cT_trial_pool cT_present_store cT_trial_store cT_present_spot cT_trial_spot vT_flow_kept vT_flow_leaked vT_flow_ranOff vT_flow_uneven vT_flow_keptInAll vT_flow_leakedInAll vT_flow_ranOffInAll cT_flow_width cT_flow_goesOn cT_flow_comes cT_flow_keeps cT_flow_holds cT_told = some u ∧ f_X8_judge x1 x2 vM_leaked vM_keptAll vM_offAll cM_bitsOf cM_d cM_f cM_sizeOf cM_came cM_got cM_held cM_off cM_number cM_found = some v ∧ u.1 = v.1 ∧ Inv cT_present_kind cT_present_above cT_present_edge cT_present_pool cT_present_store cT_present_spot vT_present_basins vT_present_spring vT_present_hour vT_present_z vT_pictured cT_picture_kind cT_picture_above cT_picture_edge cT_picture_pool cT_picture_store cT_picture_spot vT_picture_basins vT_picture_spring vT_picture_hour vT_picture_z u.2.2.2.2.2.2.2.2.2.2.2.2.2.2.2.2.2.2.2.2.2.2.2 cT_tape_bytes vT_tape_size vT_sheets_bits vT_sheets_size cT_sheets_numbers v.2.2.2.2.1 vM_isKept cM_kept v.2.2.2.2.2.2.2.2.2.2 cM_tape vM_taped cM_bitsOf cM_sizeOf cM_number := by
  obtain ⟨⟨f, hV, hC, hM⟩, hI2, hT, hP, hS⟩ := hI
  have hF : RF cT_present_kind cT_present_above cT_present_edge cT_present_pool cT_present_store cT_present_spot vT_present_basins vT_present_spring vT_present_hour vT_present_z cM_d := ⟨f, hV, hC, hM⟩
  have hn : f.n ≤ 10 := hV.1
  have hG : VG f := VG_of hV
  obtain rfl := hC.1
  obtain rfl := hC.2.1
  obtain rfl := hC.2.2.1
  have hh : f.hr ≤ 9999 := hV.2.2.2.1
  unfold f_X7_judge f_X8_judge
  by_cases hs : rg 0 3 x1
  rotate_left
  · rw [br_f1 (fun h => hs (k_sheet_iff.mp h)), bd_t (tell0 _), bd_t (whyNone_n hs _), br_t1 (by decide)]
    unfold f_X8_judge_J41
    rw [br_f1 (by decide), bd_t (finds0 _)]
    exact ⟨_, _, rfl, rfl, rfl, hF, hI2, RT_tell hT 0, hP, hS⟩
  rw [br_t1 (k_sheet_iff.mpr hs)]
  obtain ⟨t, -, ht3, rfl⟩ := hs
  have ht : t < 4 := by omega
  have vt : vp_in (nI t) 4 := vp_in_nI ht (by decide)
  obtain ⟨hb1, hb2, ⟨n, hn40, hs1, hs2⟩, hnum⟩ := hS t ht
  rw [nI_clamp (by omega)]
  by_cases hb : vT_sheets_bits t = 0
  · rw [bd_t (isMissing_0 hb), br_f1 (by decide), bd_t (tell5 _), bd_t (whyNone_0 ht (hb1 ▸ hb)), br_t1 (by decide)]
    unfold f_X8_judge_J41
    rw [br_f1 (by decide), bd_t (finds5 _)]
    exact ⟨_, _, rfl, rfl, rfl, hF, hI2, RT_tell hT 5, hP, hS⟩
  rw [bd_t (isMissing_1 hb), br_t1 rfl, bd_t (whyNone_1 ht (fun h => hb (hb1.trans h))), br_f1 (show ¬ (0 : Int32) ≤ -1 by decide), bd_t (isB7 (by omega) x2), bd_t (isB8 (by omega) hM.1 x2), br_kI, br_kI]
  by_cases hx : isb f.n x2
  rotate_left
  · rw [br_f1 hx, br_f1 hx, bd_t (tell0 _)]
    unfold f_X8_judge_J41
    rw [br_f1 (by decide), bd_t (finds0 _)]
    exact ⟨_, _, rfl, rfl, rfl, hF, hI2, RT_tell hT 0, hP, hS⟩
  rw [br_t1 hx, br_t1 hx, gd_t vt]
  obtain ⟨b, hb, rfl⟩ := hx
  rw [hs1, hs2, bd_t (late7 hh (by omega)), bd_t (late8 hh (by omega) hM.2.1)]
  by_cases hl : 9999 < f.hr + n
  · rw [kI_t hl, br_f1 (by decide), br_f1 (by decide), bd_t (tell4 _)]
    unfold f_X8_judge_J41
    rw [br_f1 (by decide), bd_t (finds4 _)]
    exact ⟨_, _, rfl, rfl, rfl, hF, hI2, RT_tell hT 4, hP, hS⟩
  rw [kI_f hl, br_t1 rfl, br_t1 rfl]
  unfold f_X8_judge_J41
  obtain ⟨tk', ta', te', tp', ts', tt', hSt, hCt⟩ := start_e hn hC vT_trial_basins vT_trial_spring vT_trial_hour vT_trial_z cT_trial_kind cT_trial_above cT_trial_edge cT_trial_pool cT_trial_store cT_trial_spot
  obtain ⟨F1, hF1, hF2⟩ := copies_e cM_d cM_f
  rw [br_t1 (show (-1 : Int32) < 0 by decide), bd_t hSt, bd_t hF1]
  dsimp only
  have vb : vp_in (nI b) 10 := vp_in_nI (by omega) (by decide)
  refine two_ex (fun u => srch (fun i => ¬ nI ((f.it i).kp b) = cT_sheets_numbers t i) n (fun j => u.1 = nI (1 + j)) (u.1 = 0) ∧ u.2.2.2.2.2.2.2.2.2.2.2.2.2.2.2.2.2.2.2.2.2.2.2 = cT_told)
    (fun v => (∀ i, i < 64 → v.2.2.2.2.1 i = cM_d i) ∧ srch (fun i => ¬ nI ((f.it i).kp b) = cT_sheets_numbers t i) n (fun j => v.1 = nI (1 + j)) (v.1 = 0) ∧ v.2.2.2.2.2.2.2.2.2.2 = cM_found) ?_ ?_ ?_
  · unfold f_X7_judge_L71
    refine lp_go3 n (fun i s => s.1 = nI i ∧ CF (f.it i) s.2.2.2.2.2.1 s.2.2.2.2.2.2.1 s.2.2.2.2.2.2.2.1 s.2.2.2.2.2.2.2.2.1 s.2.2.2.2.2.2.2.2.2.1 s.2.2.2.2.2.2.2.2.2.2.1 s.2.1 s.2.2.1 s.2.2.2.1 s.2.2.2.2.1 ∧ s.2.2.2.2.2.2.2.2.2.2.2.2.2.2.2.2.2.2.2.2.2.2.2 = cT_told ∧ ∀ j, j < i → ¬ ¬ nI ((f.it j).kp b) = cT_sheets_numbers t j) ⟨rfl, hCt, rfl, fun j hj => absurd hj (by omega)⟩ (FU_gt (by omega)) ?_
    rintro i ⟨y, tb, ts, th, tz, tk, ta, te, tp, tst, tsp, v1, v2, v3, v4, v5, v6, v7, w1, w2, w3, w4, w5, tt⟩ hi ⟨a1, a2, a3, a4⟩ rc
    dsimp only at a1 a2 a3 a4 ⊢
    subst a1 a3
    unfold f_X7_judge_L71_b
    rw [nI_clamp (show t < 2 ^ 31 by omega), hs1]
    by_cases hx : i = n
    · left
      subst hx
      rw [br_t1 (nI_le (Nat.le_refl _) (by omega))]
      exact ⟨_, rfl, Or.inr ⟨a4, rfl⟩, rfl⟩
    · obtain ⟨vk', vl', vr', vu', hr', w', g', c', k', p', h', s', hp, hpc, hk⟩ := pass_c (VG_it hG i) a2 (k := 1) (by decide) v1 v2 v3 v4 v5 v6 v7 w1 w2 w3 w4 w5
      have hkb : k' b = nI ((f.it i).kp b) := hk b (by rw [(it_same f i).1]; exact hb) 0 rfl
      rw [br_f1 (nI_ge (by omega) (by omega)), bd_t (show f_X1_pass (1 : Int32) _ _ _ _ _ _ _ _ _ _ _ _ _ _ _ _ _ _ _ _ = _ from hp)]
      dsimp only
      rw [gd_t vb, gd_t (vp_in_nI (by omega) (by decide)), nI_clamp (show b < 2 ^ 31 by omega), nI_clamp (show i < 2 ^ 31 by omega), hkb]
      by_cases q : nI ((f.it i).kp b) = cT_sheets_numbers t i
      · right
        rw [br_t1 q]
        refine ⟨by omega, _, ?_, rfl⟩
        exact ⟨nI_1 i, hpc, rfl, not_s (P := fun i => ¬ nI ((f.it i).kp b) = cT_sheets_numbers t i) a4 (fun z => z q)⟩
      · left
        rw [br_f1 q]
        exact ⟨_, rfl, Or.inl ⟨i, ⟨by omega, q, a4⟩, nI_add 1 i⟩, rfl⟩
  · unfold f_X8_judge_L68
    refine lp_go3 (n + 1) (fun i s => s.2.1 = nI i ∧ s.2.2.2.2.2.2.1 = F1 ∧ s.2.2.2.2.2.2.2.2.2.2.2 = cM_found ∧ i ≤ n ∧ ((s.1 = 0 ∧ MF (f.it i) s.2.2.2.2.2.1 ∧ ∀ j, j < i → ¬ ¬ nI ((f.it j).kp b) = cT_sheets_numbers t j) ∨ (∃ j, fst1 (fun i => ¬ nI ((f.it i).kp b) = cT_sheets_numbers t i) n j ∧ s.1 = nI (1 + j)))) ⟨rfl, rfl, rfl, by omega, Or.inl ⟨rfl, hM, fun j hj => absurd hj (by omega)⟩⟩ (FU_gt (by omega)) ?_
    rintro i ⟨y4, y5, vl, vk, vo, d1, F, c1, g1, h1, o1, fo⟩ hi ⟨a1, a2, a3, a4, a5⟩ rc
    dsimp only at a1 a2 a3 a4 a5 ⊢
    subst a1 a2 a3
    unfold f_X8_judge_L68_b f_X8_judge_J125
    obtain ⟨D, hD, hD2⟩ := copies_e F d1
    have hd3 : ∀ j, j < 64 → D j = cM_d j := fun j hj => (hD2 j hj).trans (hF2 j hj)
    rw [gd_t vt, nI_clamp (show t < 2 ^ 31 by omega), hs2, bd_t hD]
    rcases a5 with ⟨rfl, b2, b3⟩ | ⟨j, b2, rfl⟩
    · by_cases hx : i = n
      · left
        subst hx
        rw [br_t1 (nI_le (Nat.le_refl _) (by omega))]
        exact ⟨_, rfl, hd3, Or.inr ⟨b3, rfl⟩, rfl⟩
      · right
        obtain ⟨d', c, g, h, o, hH, hM', hg⟩ := hour_e (VG_it hG i) b2 vl vk vo c1 g1 h1 o1
        have hgb : g b = nI ((f.it i).kp b) := hg b (by rw [(it_same f i).1]; exact hb)
        have hN : cM_number (40 * t + i) = cT_sheets_numbers t i := (hnum i (by omega)).symm
        rw [br_f1 (nI_ge (by omega) (by omega)), br_t1 rfl, bd_t hH]
        dsimp only
        rw [gd_t vb, ix40, gd_t (vp_in_nI (by omega) (by decide)), nI_clamp (show b < 2 ^ 31 by omega), nI_clamp (show 40 * t + i < 2 ^ 31 by omega), hN, hgb]
        refine ⟨by omega, ?_⟩
        by_cases q : nI ((f.it i).kp b) = cT_sheets_numbers t i
        · rw [br_t1 q]
          refine ⟨_, ?_, rfl⟩
          exact ⟨nI_1 i, rfl, rfl, by omega, Or.inl ⟨rfl, hM', not_s (P := fun i => ¬ nI ((f.it i).kp b) = cT_sheets_numbers t i) b3 (fun z => z q)⟩⟩
        · rw [br_f1 q, nm_q]
          refine ⟨_, ?_, rfl⟩
          exact ⟨nI_1 i, rfl, rfl, by omega, Or.inr ⟨i, ⟨by omega, q, b3⟩, nI_add 1 i⟩⟩
    · left
      rw [br_f1 (show ¬ nI (1 + j) = 0 from nI_ne0 (by omega) (by have := b2.1; omega)), br_id]
      exact ⟨_, rfl, hd3, Or.inl ⟨j, b2, rfl⟩, rfl⟩
  · rintro u v ⟨h1, h2⟩ ⟨h3, h4, h5⟩
    rw [h2, h5]
    rcases srch_2 h1 h4 with ⟨j, -, e1, e2⟩ | ⟨e1, e2⟩
    · exact ⟨e1.trans e2.symm, ⟨f, hV, hC, MF_cong hn hM h3⟩, hI2, hT, hP, hS⟩
    · exact ⟨e1.trans e2.symm, ⟨f, hV, hC, MF_cong hn hM h3⟩, hI2, hT, hP, hS⟩
