/-! ===== cases: basin, under ===== -/
/-- where a new basin may come -/
def plc (n : Nat) (x : Int32) : Prop := (n = 0 ∧ x = -1) ∨ (n ≠ 0 ∧ isb n x)
theorem VF_addB {f : Fo} (h : VF f) (hn : f.n < 10) {k a : Nat} (hk : k ≤ 6) (ha : f.n ≠ 0 → a < f.n) : VF (f.addB k a) := by
  obtain ⟨h0, h1, h2, h3, h4⟩ := h
  refine ⟨by show f.n + 1 ≤ 10; omega, fun b hb => ?_, h2, h3, fun j hj => ?_⟩
  · have hb : b < f.n + 1 := hb
    show fset f.kd f.n k b ≤ 6 ∧ 1 ≤ fset f.ed f.n 1 b ∧ fset f.ed f.n 1 b ≤ 9 ∧ fset f.po f.n 0 b ≤ 30 ∧ (1 ≤ b → fset f.ab f.n a b < b)
    by_cases e : b = f.n
    · subst e
      rw [fset_s, fset_s, fset_s, fset_s]
      exact ⟨hk, by omega, by omega, by omega, fun h => ha (by omega)⟩
    · rw [fset_n e, fset_n e, fset_n e, fset_n e]
      exact h1 b (by omega)
  · exact Nat.le_succ_of_le (h4 j hj)
theorem CF_addB {f : Fo} {kind above edge pool store spot : Nat → Int32} {basins spring hour z : Int32} (h : CF f kind above edge pool store spot basins spring hour z) (k a : Nat) {x : Int32} (hx : x = abI (fset f.ab f.n a) f.n) :
    CF (f.addB k a) (upd kind f.n (nI k)) (upd above f.n x) (upd edge f.n 1) (upd pool f.n 0) (upd store f.n 0) spot (nI f.n + 1) spring hour z := by
  obtain ⟨h0, h1, h2, h3, h4, h5⟩ := h
  refine ⟨nI_1 f.n, h1, h2, h3, fun b hb => ?_, h5⟩
  have hb : b < f.n + 1 := hb
  show upd kind f.n (nI k) b = nI (fset f.kd f.n k b) ∧ upd above f.n x b = abI (fset f.ab f.n a) b ∧ upd edge f.n 1 b = nI (fset f.ed f.n 1 b) ∧ upd pool f.n 0 b = nI (fset f.po f.n 0 b) ∧ upd store f.n 0 b = fset f.st f.n 0 b
  by_cases e : b = f.n
  · subst e
    rw [pk_us, pk_us, pk_us, pk_us, pk_us, fset_s, fset_s, fset_s, fset_s]
    exact ⟨rfl, hx, rfl, rfl, rfl⟩
  · obtain ⟨a1, a2, a3, a4, a5⟩ := h4 b (by omega)
    rw [pk_un e, pk_un e, pk_un e, pk_un e, pk_un e, fset_n e, fset_n e, fset_n e, fset_n e]
    refine ⟨a1, ?_, a3, a4, a5⟩
    rw [a2]
    unfold abI
    rw [fset_n e]
theorem MF_addB {f : Fo} {d : Nat → Int32} (h : MF f d) (hn : f.n < 10) (k a : Nat) {x : Int32} (hx : x = abI (fset f.ab f.n a) f.n) :
    MF (f.addB k a) (upd (upd (upd (upd (upd (upd d 0 (nI f.n + 1)) (4 + 5 * f.n + 0) (nI k)) (4 + 5 * f.n + 1) x) (4 + 5 * f.n + 2) 1) (4 + 5 * f.n + 3) 0) (4 + 5 * f.n + 4) 0) := by
  obtain ⟨h0, h1, h2, h3, h4, h5⟩ := h
  have key : ∀ j : Nat, j ≠ 0 → (j < 4 + 5 * f.n ∨ 54 ≤ j) → upd (upd (upd (upd (upd (upd d 0 (nI f.n + 1)) (4 + 5 * f.n + 0) (nI k)) (4 + 5 * f.n + 1) x) (4 + 5 * f.n + 2) 1) (4 + 5 * f.n + 3) 0) (4 + 5 * f.n + 4) 0 j = d j := by
    intro j hj hj2
    rw [pk_un (by omega), pk_un (by omega), pk_un (by omega), pk_un (by omega), pk_un (by omega), pk_un hj]
  refine ⟨?_, (key 1 (by decide) (by omega)).trans h1, (key 2 (by decide) (by omega)).trans h2, (key 3 (by decide) (by omega)).trans h3, fun b hb => ?_, fun j hj => (key _ (by omega) (by omega)).trans (h5 j hj)⟩
  · rw [pk_un (by omega), pk_un (by omega), pk_un (by omega), pk_un (by omega), pk_un (by omega), pk_us]
    exact nI_1 f.n
  · have hb : b < f.n + 1 := hb
    show _ = nI (fset f.kd f.n k b) ∧ _ = abI (fset f.ab f.n a) b ∧ _ = nI (fset f.ed f.n 1 b) ∧ _ = nI (fset f.po f.n 0 b) ∧ _ = fset f.st f.n 0 b
    by_cases e : b = f.n
    · subst e
      rw [fset_s, fset_s, fset_s, fset_s]
      refine ⟨?_, ?_, ?_, ?_, ?_⟩
      · rw [pk_un (by omega), pk_un (by omega), pk_un (by omega), pk_un (by omega)]
        exact pk_us
      · rw [pk_un (by omega), pk_un (by omega), pk_un (by omega), pk_us]
        exact hx
      · rw [pk_un (by omega), pk_un (by omega), pk_us]
        rfl
      · rw [pk_un (by omega), pk_us]
        rfl
      · rw [pk_us]
    · obtain ⟨a1, a2, a3, a4, a5⟩ := h4 b (by omega)
      rw [fset_n e, fset_n e, fset_n e, fset_n e, key _ (by omega) (by omega), key _ (by omega) (by omega), key _ (by omega) (by omega), key _ (by omega) (by omega), key _ (by omega) (by omega)]
      refine ⟨a1, ?_, a3, a4, a5⟩
      rw [a2]
      unfold abI
      rw [fset_n e]
theorem L_basin (x1 x2 : Int32) (cT_present_kind : Nat → Int32) (cT_present_above : Nat → Int32) (cT_present_edge : Nat → Int32) (cT_present_pool : Nat → Int32) (cT_present_store : Nat → Int32) (cT_present_spot : Nat → Int32) (vT_present_basins : Int32) (vT_present_spring : Int32) (vT_present_hour : Int32) (vT_present_z : Int32) (vT_pictured : Int32) (cT_picture_kind : Nat → Int32) (cT_picture_above : Nat → Int32) (cT_picture_edge : Nat → Int32) (cT_picture_pool : Nat → Int32) (cT_picture_store : Nat → Int32) (cT_picture_spot : Nat → Int32) (vT_picture_basins : Int32) (vT_picture_spring : Int32) (vT_picture_hour : Int32) (vT_picture_z : Int32) (cT_told : Nat → Int32) (cT_tape_bytes : Nat → Int32) (vT_tape_size : Int32) (vT_sheets_bits : Nat → Int32) (vT_sheets_size : Nat → Int32) (cT_sheets_numbers : Nat → Nat → Int32) (cM_d : Nat → Int32) (vM_isKept : Int32) (cM_kept : Nat → Int32) (cM_found : Nat → Int32) (cM_tape : Nat → Int32) (vM_taped : Int32) (cM_bitsOf : Nat → Int32) (cM_sizeOf : Nat → Int32) (cM_number : Nat → Int32) (hI : Inv cT_present_kind cT_present_above cT_present_edge cT_present_pool cT_present_store cT_present_spot vT_present_basins vT_present_spring vT_present_hour vT_present_z vT_pictured cT_picture_kind cT_picture_above cT_picture_edge cT_picture_pool cT_picture_store cT_picture_spot vT_picture_basins vT_picture_spring vT_picture_hour vT_picture_z cT_told cT_tape_bytes vT_tape_size vT_sheets_bits vT_sheets_size cT_sheets_numbers cM_d vM_isKept cM_kept cM_found cM_tape vM_taped cM_bitsOf cM_sizeOf cM_number) : ∃ (u : Int32 × Int32 × (Nat → Int32) × (Nat → Int32) × (Nat → Int32) × (Nat → Int32) × (Nat → Int32) × (Nat → Int32)) (v : Int32 × (Nat → Int32) × (Nat → Int32)), f_X7_basin x1 x2 vT_present_basins cT_told cT_present_kind cT_present_above cT_present_edge cT_present_pool cT_present_store = some u ∧ f_X8_basin x1 x2 cM_d cM_found = some v ∧ u.1 = v.1 ∧ Inv u.2.2.2.1 u.2.2.2.2.1 u.2.2.2.2.2.1 u.2.2.2.2.2.2.1 u.2.2.2.2.2.2.2 cT_present_spot u.2.1 vT_present_spring vT_present_hour vT_present_z vT_pictured cT_picture_kind cT_picture_above cT_picture_edge cT_picture_pool cT_picture_store cT_picture_spot vT_picture_basins vT_picture_spring vT_picture_hour vT_picture_z u.2.2.1 cT_tape_bytes vT_tape_size vT_sheets_bits vT_sheets_size cT_sheets_numbers v.2.1 vM_isKept cM_kept v.2.2 cM_tape vM_taped cM_bitsOf cM_sizeOf cM_number := by
  obtain ⟨⟨f, hV, hC, hM⟩, hI2, hT, hP, hS⟩ := hI
  have hn : f.n ≤ 10 := hV.1
  obtain rfl := hC.1
  have hd0 : cM_d (0 : Int32).toNatClampNeg = nI f.n := hM.1
  have h7 : f_X7_basin x1 x2 (nI f.n) cT_told cT_present_kind cT_present_above cT_present_edge cT_present_pool cT_present_store = f_X7_basin_J28 x1 x2 (kI (plc f.n x2)) (nI f.n) cT_told cT_present_kind cT_present_above cT_present_edge cT_present_pool cT_present_store := by
    unfold f_X7_basin
    by_cases h0 : f.n = 0
    · rw [br_t1 ((nI_z (by omega)).mpr h0)]
      by_cases h1 : x2 = -1
      · rw [br_t1 h1, kI_t (show plc f.n x2 from Or.inl ⟨h0, h1⟩)]
      · rw [br_f1 h1, kI_f (show ¬ plc f.n x2 from fun h => h.elim (fun q => h1 q.2) (fun q => q.1 h0))]
    · rw [br_f1 (fun h => h0 ((nI_z (by omega)).mp h)), bd_t (isB7 (n := f.n) (by omega) x2)]
      rw [kI_c (show isb f.n x2 ↔ plc f.n x2 from ⟨fun h => Or.inr ⟨h0, h⟩, fun h => h.elim (fun q => absurd q.1 h0) (fun q => q.2)⟩)]
  have h8 : f_X8_basin x1 x2 cM_d cM_found = f_X8_basin_J27 x1 x2 (kI (plc f.n x2)) cM_d cM_found := by
    unfold f_X8_basin
    rw [hd0]
    by_cases h0 : f.n = 0
    · rw [br_t1 ((nI_z (by omega)).mpr h0)]
      by_cases h1 : x2 = -1
      · rw [br_t1 h1, kI_t (show plc f.n x2 from Or.inl ⟨h0, h1⟩)]
      · rw [br_f1 h1, kI_f (show ¬ plc f.n x2 from fun h => h.elim (fun q => h1 q.2) (fun q => q.1 h0))]
    · rw [br_f1 (fun h => h0 ((nI_z (by omega)).mp h)), bd_t (isB8 (n := f.n) (by omega) hM.1 x2)]
      rw [kI_c (show isb f.n x2 ↔ plc f.n x2 from ⟨fun h => Or.inr ⟨h0, h⟩, fun h => h.elim (fun q => absurd q.1 h0) (fun q => q.2)⟩)]
  rw [h7, h8]
  unfold f_X7_basin_J28 f_X8_basin_J27
  have hin : f_X8_in x1.toInt64 (0 : Int64) (6 : Int64) = some (kI (rg 0 6 x1)) := in_n (by decide) rfl rfl x1
  rw [br_kI, bd_t (isKind_e x1), br_kI, bd_t hin, br_kI, br_kI, hd0]
  by_cases hk : rg 0 6 x1
  · by_cases hp : plc f.n x2
    · rw [br_t1 hp, br_t1 hk, br_t1 hk, br_t1 hp]
      by_cases h10 : f.n = 10
      · rw [br_f1 (show ¬ nI f.n < (10 : Int32) by rw [h10]; decide), br_t1 (show nI f.n = (10 : Int32) by rw [h10]; rfl), bd_t (tell1 _), bd_t (finds1 _)]
        exact ⟨_, _, rfl, rfl, rfl, ⟨f, hV, hC, hM⟩, hI2, RT_tell hT 1, hP, hS⟩
      · have hlt : f.n < 10 := by omega
        have hv : vp_in (nI f.n) 10 := vp_in_nI hlt (by decide)
        have h9 : nI f.n < (10 : Int32) := nI_lt (a := f.n) (b := 10) hlt (by decide)
        rw [br_t1 h9, br_f1 (show ¬ nI f.n = (10 : Int32) from fun h => h10 ((nI_eq (b := 10) (by omega) (by decide)).mp h))]
        obtain ⟨k, -, hk6, rfl⟩ := hk
        obtain ⟨a, ha, hx⟩ : ∃ a : Nat, (f.n ≠ 0 → a < f.n) ∧ x2 = abI (fset f.ab f.n a) f.n := by
          unfold abI
          rcases hp with ⟨h0, h1⟩ | ⟨h0, a, ha, h1⟩
          · exact ⟨0, fun h => absurd h0 h, by rw [if_pos h0]; exact h1⟩
          · exact ⟨a, fun _ => ha, by rw [if_neg h0, fset_s]; exact h1⟩
        have hadd : f_X2_add (nI k) x2 (1 : Int32) (nI f.n) cT_present_kind cT_present_above cT_present_edge cT_present_pool cT_present_store = some (nI f.n, nI f.n + 1, upd cT_present_kind f.n (nI k), upd cT_present_above f.n x2, upd cT_present_edge f.n 1, upd cT_present_pool f.n 0, upd cT_present_store f.n 0) := by
          unfold f_X2_add
          rw [br_f1 (nI_pos (by omega)), br_t1 h9, gd_t hv, gd_t hv, gd_t hv, gd_t hv, gd_t hv, nI_clamp (by omega)]
        have hcomes : f_X8_comes (nI k) x2 (1 : Int32) cM_d = some (nI f.n, upd (upd (upd (upd (upd (upd cM_d 0 (nI f.n + 1)) (4 + 5 * f.n + 0) (nI k)) (4 + 5 * f.n + 1) x2) (4 + 5 * f.n + 2) 1) (4 + 5 * f.n + 3) 0) (4 + 5 * f.n + 4) 0) := by
          unfold f_X8_comes
          rw [hd0, nm_q, bd_t (show f_X8_sets (nI f.n) (0 : Int32) _ _ = _ from sets_e (b := f.n) (c := 0) (by omega) _ _), bd_t (show f_X8_sets (nI f.n) (1 : Int32) _ _ = _ from sets_e (b := f.n) (c := 1) (by omega) _ _), bd_t (show f_X8_sets (nI f.n) (2 : Int32) _ _ = _ from sets_e (b := f.n) (c := 2) (by omega) _ _), bd_t (show f_X8_sets (nI f.n) (3 : Int32) _ _ = _ from sets_e (b := f.n) (c := 3) (by omega) _ _), bd_t (show f_X8_sets (nI f.n) (4 : Int32) _ _ = _ from sets_e (b := f.n) (c := 4) (by omega) _ _)]
          rfl
        rw [bd_t hadd, bd_t hcomes]
        exact ⟨_, _, rfl, rfl, rfl, ⟨f.addB k a, VF_addB hV hlt hk6 ha, CF_addB hC k a hx, MF_addB hM hlt k a hx⟩, hI2, hT, hP, hS⟩
    · rw [br_f1 hp, br_t1 hk, br_f1 hp, bd_t (tell0 _), bd_t (finds0 _)]
      exact ⟨_, _, rfl, rfl, rfl, ⟨f, hV, hC, hM⟩, hI2, RT_tell hT 0, hP, hS⟩
  · rw [br_f1 hk, br_f1 hk, bd_t (finds0 _), bd_t (tell0 _)]
    have e7 : ∀ {A : Type} (X : Option A), br (plc f.n x2) X X = X := by
      intro A X
      by_cases hp : plc f.n x2
      · exact br_t1 hp
      · exact br_f1 hp
    rw [e7]
    exact ⟨_, _, rfl, rfl, rfl, ⟨f, hV, hC, hM⟩, hI2, RT_tell hT 0, hP, hS⟩
