/-! ===== cases: under, steps ===== -/
theorem or_z (x : Int32) : x ||| (0 : Int32) = x := Int32.or_zero
theorem L_under (x1 x2 : Int32) (cT_present_kind : Nat → Int32) (cT_present_above : Nat → Int32) (cT_present_edge : Nat → Int32) (cT_present_pool : Nat → Int32) (cT_present_store : Nat → Int32) (cT_present_spot : Nat → Int32) (vT_present_basins : Int32) (vT_present_spring : Int32) (vT_present_hour : Int32) (vT_present_z : Int32) (vT_pictured : Int32) (cT_picture_kind : Nat → Int32) (cT_picture_above : Nat → Int32) (cT_picture_edge : Nat → Int32) (cT_picture_pool : Nat → Int32) (cT_picture_store : Nat → Int32) (cT_picture_spot : Nat → Int32) (vT_picture_basins : Int32) (vT_picture_spring : Int32) (vT_picture_hour : Int32) (vT_picture_z : Int32) (cT_told : Nat → Int32) (cT_tape_bytes : Nat → Int32) (vT_tape_size : Int32) (vT_sheets_bits : Nat → Int32) (vT_sheets_size : Nat → Int32) (cT_sheets_numbers : Nat → Nat → Int32) (cM_d : Nat → Int32) (vM_isKept : Int32) (cM_kept : Nat → Int32) (cM_found : Nat → Int32) (cM_tape : Nat → Int32) (vM_taped : Int32) (cM_bitsOf : Nat → Int32) (cM_sizeOf : Nat → Int32) (cM_number : Nat → Int32) (hI : Inv cT_present_kind cT_present_above cT_present_edge cT_present_pool cT_present_store cT_present_spot vT_present_basins vT_present_spring vT_present_hour vT_present_z vT_pictured cT_picture_kind cT_picture_above cT_picture_edge cT_picture_pool cT_picture_store cT_picture_spot vT_picture_basins vT_picture_spring vT_picture_hour vT_picture_z cT_told cT_tape_bytes vT_tape_size vT_sheets_bits vT_sheets_size cT_sheets_numbers cM_d vM_isKept cM_kept cM_found cM_tape vM_taped cM_bitsOf cM_sizeOf cM_number) : ∃ (u : Int32 × (Nat → Int32)) (v : Int32 × (Nat → Int32)), f_X7_under x1 x2 vT_present_basins cT_told cT_present_above = some u ∧ f_X8_under x1 x2 cM_d cM_found = some v ∧ u.1 = v.1 ∧ Inv cT_present_kind cT_present_above cT_present_edge cT_present_pool cT_present_store cT_present_spot vT_present_basins vT_present_spring vT_present_hour vT_present_z vT_pictured cT_picture_kind cT_picture_above cT_picture_edge cT_picture_pool cT_picture_store cT_picture_spot vT_picture_basins vT_picture_spring vT_picture_hour vT_picture_z u.2 cT_tape_bytes vT_tape_size vT_sheets_bits vT_sheets_size cT_sheets_numbers cM_d vM_isKept cM_kept v.2 cM_tape vM_taped cM_bitsOf cM_sizeOf cM_number := by
  obtain ⟨⟨f, hV, hC, hM⟩, hI2, hT, hP, hS⟩ := hI
  have hn : f.n ≤ 10 := hV.1
  obtain rfl := hC.1
  have hd0 : cM_d (0 : Int32).toNatClampNeg = nI f.n := hM.1
  have h7 : f_X7_within x2 (0 : Int32) (1 : Int32) = some (kI (rg 0 1 x2)) := within_n (by decide) (by decide) x2
  have h8 : f_X8_in x2.toInt64 (0 : Int64) (1 : Int64) = some (kI (rg 0 1 x2)) := in_n (by decide) rfl rfl x2
  unfold f_X7_under f_X8_under
  rw [bd_t (isB7 (n := f.n) (by omega) x1), bd_t (isB8 (n := f.n) (by omega) hM.1 x1), br_kI, br_kI, bd_t h7, bd_t h8, br_kI, br_kI]
  by_cases hp : isb f.n x1
  · by_cases hr : rg 0 1 x2
    · rw [br_t1 hp, br_t1 hp, br_t1 hr, br_t1 hr, nm_q, nm_q]
      obtain ⟨j, hj, rfl⟩ := hp
      have hstep : ∀ (i : Nat) (s t : Int32 × Int32 × (Nat → Int32)), i ≤ 10 → (s.1 = t.1 ∧ s.2.1 = nI (j + 1 + i) ∧ t.2.1 = nI (j + 1 + i) ∧ s.2.2 = cT_told ∧ t.2.2 = cM_found) →
          (∃ a b : Int32 × (Nat → Int32), (a.1 = b.1 ∧ a.2 = cT_told ∧ b.2 = cM_found) ∧ (∀ rc, f_X7_under_L31_b (nI j) x2 (nI f.n) cT_present_above rc s.1 s.2.1 s.2.2 = some a) ∧ ∀ rc, f_X8_under_L31_b (nI j) x2 cM_d rc t.1 t.2.1 t.2.2 = some b) ∨
          (i < 10 ∧ ∃ s' t' : Int32 × Int32 × (Nat → Int32), (s'.1 = t'.1 ∧ s'.2.1 = nI (j + 1 + (i + 1)) ∧ t'.2.1 = nI (j + 1 + (i + 1)) ∧ s'.2.2 = cT_told ∧ t'.2.2 = cM_found) ∧ (∀ rc, f_X7_under_L31_b (nI j) x2 (nI f.n) cT_present_above rc s.1 s.2.1 s.2.2 = rc s') ∧ ∀ rc, f_X8_under_L31_b (nI j) x2 cM_d rc t.1 t.2.1 t.2.2 = rc t') := by
        rintro i ⟨y, o1, t1⟩ ⟨y', o2, t2⟩ hi ⟨e1, e2, e3, e4, e5⟩
        dsimp only at e1 e2 e3 e4 e5
        subst e1 e2 e3 e4 e5
        dsimp only
        by_cases ho : f.n ≤ j + 1 + i
        · left
          refine ⟨(y, t1), (y, t2), ⟨rfl, rfl, rfl⟩, fun rc => ?_, fun rc => ?_⟩
          · unfold f_X7_under_L31_b
            exact br_t1 (nI_le ho (by omega))
          · unfold f_X8_under_L31_b
            rw [hd0]
            exact br_t1 (nI_le ho (by omega))
        · right
          have ho' : j + 1 + i < f.n := by omega
          have hB := (hC.2.2.2.2.1 (j + 1 + i) ho').2.1
          have hD := (hM.2.2.2.2.1 (j + 1 + i) ho').2.1
          have hnl : ¬ nI f.n ≤ nI (j + 1 + i) := nI_ge ho' (by omega)
          have hv : vp_in (nI (j + 1 + i)) 10 := vp_in_nI (by omega) (by decide)
          have hits : f_X8_its (nI (j + 1 + i)) (1 : Int32) cM_d = some (abI f.ab (j + 1 + i)) := (its_e (b := j + 1 + i) (c := 1) (by omega) cM_d).trans (congrArg some hD)
          have key : ∃ z : Int32, (∀ rc, f_X7_under_L31_b (nI j) x2 (nI f.n) cT_present_above rc y (nI (j + 1 + i)) t1 = rc (z, nI (j + 1 + i) + 1, t1)) ∧ ∀ rc, f_X8_under_L31_b (nI j) x2 cM_d rc y (nI (j + 1 + i)) t2 = rc (z, nI (j + 1 + i) + 1, t2) := by
            unfold f_X7_under_L31_b f_X8_under_L31_b f_X7_under_J75 f_X8_under_J77
            rw [hd0]
            by_cases q1 : abI f.ab (j + 1 + i) = nI j
            · refine ⟨y ||| ((1 : Int32) <<< (nI (j + 1 + i) &&& 31)), fun rc => ?_, fun rc => ?_⟩
              · rw [br_f1 hnl, gd_t hv, nI_clamp (by omega), nm_q, hB, br_t1 q1, br_t1 q1, br_id, br_id, nm_q]
              · rw [br_f1 hnl, bd_t hits, br_t1 q1, br_f1 (by decide), nm_q]
            · by_cases q2 : x2 = (1 : Int32)
              · by_cases q3 : ((y >>> (abI f.ab (j + 1 + i) &&& 31)) &&& (1 : Int32)) = (1 : Int32)
                · refine ⟨y ||| ((1 : Int32) <<< (nI (j + 1 + i) &&& 31)), fun rc => ?_, fun rc => ?_⟩
                  · rw [br_f1 hnl, gd_t hv, nI_clamp (by omega), nm_q, hB, br_t1 q2, br_t1 q3, br_f1 q1, br_f1 (by decide), nm_q]
                  · rw [br_f1 hnl, bd_t hits, br_f1 q1, br_t1 q2, br_t1 q3, br_f1 (by decide), nm_q]
                · refine ⟨y, fun rc => ?_, fun rc => ?_⟩
                  · rw [br_f1 hnl, gd_t hv, nI_clamp (by omega), nm_q, hB, br_t1 q2, br_f1 q3, br_f1 q1, br_t1 rfl]
                  · rw [br_f1 hnl, bd_t hits, br_f1 q1, br_t1 q2, br_f1 q3, br_t1 rfl, nm_q, or_z]
              · refine ⟨y, fun rc => ?_, fun rc => ?_⟩
                · rw [br_f1 hnl, gd_t hv, nI_clamp (by omega), nm_q, hB, br_f1 q2, br_f1 q1, br_t1 rfl]
                · rw [br_f1 hnl, bd_t hits, br_f1 q1, br_f1 q2, br_t1 rfl, nm_q, or_z]
          obtain ⟨z, k1, k2⟩ := key
          exact ⟨by omega, (z, nI (j + 1 + i) + 1, t1), (z, nI (j + 1 + i) + 1, t2), ⟨rfl, nI_1 _, nI_1 _, rfl, rfl⟩, k1, k2⟩
      obtain ⟨a, b, e1, e2, e3, e4, e5⟩ := lp_two (fun rc v => f_X7_under_L31_b (nI j) x2 (nI f.n) cT_present_above rc v.1 v.2.1 v.2.2) (fun rc v => f_X8_under_L31_b (nI j) x2 cM_d rc v.1 v.2.1 v.2.2) _ 10 _ hstep ((0 : Int32), nI j + 1, cT_told) ((0 : Int32), nI j + 1, cM_found) ⟨rfl, nI_1 j, nI_1 j, rfl, rfl⟩ (FU_gt (by decide))
      refine ⟨a, b, e1, e2, e3, ⟨f, hV, hC, hM⟩, hI2, ?_, hP, hS⟩
      rw [e4, e5]
      exact hT
    · rw [br_t1 hp, br_t1 hp, br_f1 hr, br_f1 hr, bd_t (tell0 _), bd_t (finds0 _)]
      exact ⟨_, _, rfl, rfl, rfl, ⟨f, hV, hC, hM⟩, hI2, RT_tell hT 0, hP, hS⟩
  · rw [br_f1 hp, br_f1 hp, bd_t (tell0 _), bd_t (finds0 _)]
    exact ⟨_, _, rfl, rfl, rfl, ⟨f, hV, hC, hM⟩, hI2, RT_tell hT 0, hP, hS⟩
