/-! ===== cases: change ===== -/
theorem put_t {a b j : Nat} (hj : j < 10) (v : Int32) {A B : Int32} (row told : Nat → Int32) (hA : A = nI a) (hB : B = nI b) (h : rg a b v) (ha : a < 2 ^ 31) (hb : b < 2 ^ 31) : f_X7_put (nI j) v A B row told = some (row j, upd row j v, told) := by
  subst hA hB
  unfold f_X7_put
  have hv : vp_in (nI j) 10 := vp_in_nI hj (by decide)
  rw [bd_t (within_n hb ha v), br_kI, br_t1 h, gd_t hv, nm_q, gd_t hv, nI_clamp (by omega)]
theorem put_f {a b j : Nat} (v : Int32) {A B : Int32} (row told : Nat → Int32) (hA : A = nI a) (hB : B = nI b) (h : ¬ rg a b v) (ha : a < 2 ^ 31) (hb : b < 2 ^ 31) : f_X7_put (nI j) v A B row told = some ((-1000001 : Int32), row, upd told 0 (told 0 + 1)) := by
  subst hA hB
  unfold f_X7_put
  rw [bd_t (within_n hb ha v), br_kI, br_f1 h, bd_t (tell0 _)]
theorem chg_1 {n j : Nat} (hn : n ≤ 10) {c : Nat} (hc : c ≤ 4) (v t : Int32) {x2 : Int32} (h2 : x2 = nI c) (ht : ¬ t = 0) {d found : Nat → Int32} (hd : d 0 = nI n) (hj : j < n) :
    f_X8_change_J72 (nI j) x2 v t d found = some (d (4 + 5 * j + c), upd d (4 + 5 * j + c) v, found) := by
  subst h2
  unfold f_X8_change_J72
  rw [bd_t (isB8 (n := n) (by omega) hd (nI j)), br_kI, br_t1 (show isb n (nI j) from ⟨j, hj, rfl⟩), br_f1 ht, bd_t (its_e (by omega) _), bd_t (sets_e (by omega) _ _)]
theorem chg_0 {n : Nat} (hn : n ≤ 10) (x1 x2 v : Int32) {t : Int32} (ht : t = 0) {d found : Nat → Int32} (hd : d 0 = nI n) :
    f_X8_change_J72 x1 x2 v t d found = some ((-1000001 : Int32), d, upd found 0 (found 0 + 1)) := by
  unfold f_X8_change_J72
  rw [bd_t (isB8 (n := n) (by omega) hd x1), br_kI, bd_t (finds0 _)]
  by_cases h : isb n x1
  · rw [br_t1 h, br_t1 ht]
  · rw [br_f1 h]
theorem chg_n {n : Nat} (hn : n ≤ 10) (x1 x2 v t : Int32) {d found : Nat → Int32} (hd : d 0 = nI n) (hx : ¬ isb n x1) :
    f_X8_change_J72 x1 x2 v t d found = some ((-1000001 : Int32), d, upd found 0 (found 0 + 1)) := by
  unfold f_X8_change_J72
  rw [bd_t (isB8 (n := n) (by omega) hd x1), br_kI, br_f1 hx, bd_t (finds0 _)]
theorem br_id {α : Type} {p : Prop} (x : Option α) : br p x x = x := by
  by_cases h : p
  · exact br_t1 h
  · exact br_f1 h
theorem L_change (x1 x2 x3 : Int32) (cT_present_kind : Nat → Int32) (cT_present_above : Nat → Int32) (cT_present_edge : Nat → Int32) (cT_present_pool : Nat → Int32) (cT_present_store : Nat → Int32) (cT_present_spot : Nat → Int32) (vT_present_basins : Int32) (vT_present_spring : Int32) (vT_present_hour : Int32) (vT_present_z : Int32) (vT_pictured : Int32) (cT_picture_kind : Nat → Int32) (cT_picture_above : Nat → Int32) (cT_picture_edge : Nat → Int32) (cT_picture_pool : Nat → Int32) (cT_picture_store : Nat → Int32) (cT_picture_spot : Nat → Int32) (vT_picture_basins : Int32) (vT_picture_spring : Int32) (vT_picture_hour : Int32) (vT_picture_z : Int32) (cT_told : Nat → Int32) (cT_tape_bytes : Nat → Int32) (vT_tape_size : Int32) (vT_sheets_bits : Nat → Int32) (vT_sheets_size : Nat → Int32) (cT_sheets_numbers : Nat → Nat → Int32) (cM_d : Nat → Int32) (vM_isKept : Int32) (cM_kept : Nat → Int32) (cM_found : Nat → Int32) (cM_tape : Nat → Int32) (vM_taped : Int32) (cM_bitsOf : Nat → Int32) (cM_sizeOf : Nat → Int32) (cM_number : Nat → Int32) (hI : Inv cT_present_kind cT_present_above cT_present_edge cT_present_pool cT_present_store cT_present_spot vT_present_basins vT_present_spring vT_present_hour vT_present_z vT_pictured cT_picture_kind cT_picture_above cT_picture_edge cT_picture_pool cT_picture_store cT_picture_spot vT_picture_basins vT_picture_spring vT_picture_hour vT_picture_z cT_told cT_tape_bytes vT_tape_size vT_sheets_bits vT_sheets_size cT_sheets_numbers cM_d vM_isKept cM_kept cM_found cM_tape vM_taped cM_bitsOf cM_sizeOf cM_number) : ∃ (u : Int32 × (Nat → Int32) × (Nat → Int32) × (Nat → Int32) × (Nat → Int32) × (Nat → Int32)) (v : Int32 × (Nat → Int32) × (Nat → Int32)), f_X7_change x1 x2 x3 vT_present_basins cT_present_kind cT_told cT_present_edge cT_present_pool cT_present_store = some u ∧ f_X8_change x1 x2 x3 cM_d cM_found = some v ∧ u.1 = v.1 ∧ Inv u.2.1 cT_present_above u.2.2.2.1 u.2.2.2.2.1 u.2.2.2.2.2 cT_present_spot vT_present_basins vT_present_spring vT_present_hour vT_present_z vT_pictured cT_picture_kind cT_picture_above cT_picture_edge cT_picture_pool cT_picture_store cT_picture_spot vT_picture_basins vT_picture_spring vT_picture_hour vT_picture_z u.2.2.1 cT_tape_bytes vT_tape_size vT_sheets_bits vT_sheets_size cT_sheets_numbers v.2.1 vM_isKept cM_kept v.2.2 cM_tape vM_taped cM_bitsOf cM_sizeOf cM_number := by
  obtain ⟨⟨f, hV, hC, hM⟩, hI2, hT, hP, hS⟩ := hI
  have hn : f.n ≤ 10 := hV.1
  obtain rfl := hC.1
  have h06 : f_X8_in x3.toInt64 (0 : Int64) (6 : Int64) = some (kI (rg 0 6 x3)) := in_n (by decide) rfl rfl x3
  have h19 : f_X8_in x3.toInt64 (1 : Int64) (9 : Int64) = some (kI (rg 1 9 x3)) := in_n (by decide) rfl rfl x3
  have h030 : f_X8_in x3.toInt64 (0 : Int64) (30 : Int64) = some (kI (rg 0 30 x3)) := in_n (by decide) rfl rfl x3
  have h09 : f_X8_in x3.toInt64 (0 : Int64) (99999999 : Int64) = some (kI (rg 0 99999999 x3)) := in_n (by decide) rfl rfl x3
  unfold f_X7_change f_X8_change
  rw [bd_t (isB7 (n := f.n) (by omega) x1), br_kI, bd_t h06, bd_t h19, bd_t h030, bd_t h09, br_kI]
  by_cases hp : isb f.n x1
  · rw [br_t1 hp]
    obtain ⟨j, hj, rfl⟩ := hp
    have hj10 : j < 10 := by omega
    have hB := hC.2.2.2.2.1 j hj
    have hD := hM.2.2.2.2.1 j hj
    by_cases c0 : x2 = 0
    · rw [br_t1 c0, br_t1 c0]
      by_cases hr : rg 0 6 x3
      · rw [bd_t (put_t (A := 0) (B := 6) (a := 0) (b := 6) hj10 x3 cT_present_kind cT_told rfl rfl hr (by decide) (by decide)), kI_t hr, chg_1 hn (c := 0) (by omega) x3 1 c0 (by decide) hM.1 hj]
        obtain ⟨w, hw1, hw2, rfl⟩ := hr
        exact ⟨_, _, rfl, rfl, hB.1.trans hD.1.symm, ⟨f.setKd j w, VF_Kd hV j hw2, CF_Kd hC j w, MF_Kd hM hn hj w⟩, hI2, hT, hP, hS⟩
      · rw [bd_t (put_f (j := j) (A := 0) (B := 6) (a := 0) (b := 6) x3 cT_present_kind cT_told rfl rfl hr (by decide) (by decide)), kI_f hr, chg_0 hn _ _ _ rfl hM.1]
        exact ⟨_, _, rfl, rfl, rfl, ⟨f, hV, hC, hM⟩, hI2, RT_tell hT 0, hP, hS⟩
    by_cases c1 : x2 = 1
    · rw [br_f1 c0, br_t1 c1, bd_t (tell0 _), br_f1 c0, br_f1 (show ¬ x2 = (2 : Int32) by rw [c1]; decide), br_f1 (show ¬ x2 = (3 : Int32) by rw [c1]; decide), br_f1 (show ¬ x2 = (4 : Int32) by rw [c1]; decide), chg_0 hn _ _ _ rfl hM.1]
      exact ⟨_, _, rfl, rfl, rfl, ⟨f, hV, hC, hM⟩, hI2, RT_tell hT 0, hP, hS⟩
    by_cases c2 : x2 = 2
    · rw [br_f1 c0, br_f1 c1, br_t1 c2, br_f1 c0, br_t1 c2]
      by_cases hr : rg 1 9 x3
      · rw [bd_t (put_t (A := 1) (B := 9) (a := 1) (b := 9) hj10 x3 cT_present_edge cT_told rfl rfl hr (by decide) (by decide)), kI_t hr, chg_1 hn (c := 2) (by omega) x3 1 c2 (by decide) hM.1 hj]
        obtain ⟨w, hw1, hw2, rfl⟩ := hr
        exact ⟨_, _, rfl, rfl, hB.2.2.1.trans hD.2.2.1.symm, ⟨f.setEd j w, VF_Ed hV j hw1 hw2, CF_Ed hC j w, MF_Ed hM hn hj w⟩, hI2, hT, hP, hS⟩
      · rw [bd_t (put_f (j := j) (A := 1) (B := 9) (a := 1) (b := 9) x3 cT_present_edge cT_told rfl rfl hr (by decide) (by decide)), kI_f hr, chg_0 hn _ _ _ rfl hM.1]
        exact ⟨_, _, rfl, rfl, rfl, ⟨f, hV, hC, hM⟩, hI2, RT_tell hT 0, hP, hS⟩
    by_cases c3 : x2 = 3
    · rw [br_f1 c0, br_f1 c1, br_f1 c2, br_t1 c3, br_f1 c0, br_f1 c2, br_t1 c3]
      by_cases hr : rg 0 30 x3
      · rw [bd_t (put_t (A := 0) (B := 30) (a := 0) (b := 30) hj10 x3 cT_present_pool cT_told rfl rfl hr (by decide) (by decide)), kI_t hr, chg_1 hn (c := 3) (by omega) x3 1 c3 (by decide) hM.1 hj]
        obtain ⟨w, hw1, hw2, rfl⟩ := hr
        exact ⟨_, _, rfl, rfl, hB.2.2.2.1.trans hD.2.2.2.1.symm, ⟨f.setPo j w, VF_Po hV j hw2, CF_Po hC j w, MF_Po hM hn hj w⟩, hI2, hT, hP, hS⟩
      · rw [bd_t (put_f (j := j) (A := 0) (B := 30) (a := 0) (b := 30) x3 cT_present_pool cT_told rfl rfl hr (by decide) (by decide)), kI_f hr, chg_0 hn _ _ _ rfl hM.1]
        exact ⟨_, _, rfl, rfl, rfl, ⟨f, hV, hC, hM⟩, hI2, RT_tell hT 0, hP, hS⟩
    by_cases c4 : x2 = 4
    · rw [br_f1 c0, br_f1 c1, br_f1 c2, br_f1 c3, br_t1 c4, br_f1 c0, br_f1 c2, br_f1 c3, br_t1 c4]
      by_cases hr : rg 0 99999999 x3
      · rw [bd_t (put_t (A := 0) (B := 99999999) (a := 0) (b := 99999999) hj10 x3 cT_present_store cT_told rfl rfl hr (by decide) (by decide)), br_t1 hr, chg_1 hn (c := 4) (by omega) x3 1 c4 (by decide) hM.1 hj]
        skip
        exact ⟨_, _, rfl, rfl, hB.2.2.2.2.trans hD.2.2.2.2.symm, ⟨f.setSt j x3, hV, CF_St hC j x3, MF_St hM hn hj x3⟩, hI2, hT, hP, hS⟩
      · rw [bd_t (put_f (j := j) (A := 0) (B := 99999999) (a := 0) (b := 99999999) x3 cT_present_store cT_told rfl rfl hr (by decide) (by decide)), br_f1 hr, chg_0 hn _ _ _ rfl hM.1]
        exact ⟨_, _, rfl, rfl, rfl, ⟨f, hV, hC, hM⟩, hI2, RT_tell hT 0, hP, hS⟩
    rw [br_f1 c0, br_f1 c1, br_f1 c2, br_f1 c3, br_f1 c4, bd_t (tell0 _), br_f1 c0, br_f1 c2, br_f1 c3, br_f1 c4, chg_0 hn _ _ _ rfl hM.1]
    exact ⟨_, _, rfl, rfl, rfl, ⟨f, hV, hC, hM⟩, hI2, RT_tell hT 0, hP, hS⟩
  · rw [br_f1 hp, bd_t (tell0 _), chg_n hn _ _ _ _ hM.1 hp, chg_n hn _ _ _ _ hM.1 hp, chg_n hn _ _ _ _ hM.1 hp, chg_n hn _ _ _ (1 : Int32) hM.1 hp, chg_n hn _ _ _ (0 : Int32) hM.1 hp, br_id, br_id, br_id, br_id, br_id]
    exact ⟨_, _, rfl, rfl, rfl, ⟨f, hV, hC, hM⟩, hI2, RT_tell hT 0, hP, hS⟩
