/-! ===== cases: write, sheet, load ===== -/
theorem k_sheet_iff {x : Int32} : k_sheet x ↔ rg 0 3 x := by
  rw [rg_iff (by decide)]
  unfold k_sheet
  rw [Int32.lt_iff_toInt_lt, Int32.lt_iff_toInt_lt, show (0 : Int32).toInt = 0 from rfl, show (3 : Int32).toInt = 3 from rfl]
  omega
theorem isSheet8 (x : Int32) : f_X8_isSheet x = some (kI (rg 0 3 x)) := by
  unfold f_X8_isSheet
  have h : f_X8_in x.toInt64 (0 : Int64) (3 : Int64) = some (kI (rg 0 3 x)) := in_n (by decide) rfl rfl x
  rw [bd_t h, gd_kI]
theorem whyNone_n {x : Int32} (h : ¬ rg 0 3 x) (b : Nat → Int32) : f_X8_whyNone x b = some 0 := by
  unfold f_X8_whyNone
  rw [bd_t (isSheet8 x), br_kI, br_f1 h]
theorem whyNone_0 {t : Nat} (ht : t < 4) {b : Nat → Int32} (h : b t = 0) : f_X8_whyNone (nI t) b = some 5 := by
  unfold f_X8_whyNone
  rw [bd_t (isSheet8 _), br_kI, br_t1 (show rg 0 3 (nI t) from ⟨t, by omega, by omega, rfl⟩), gd_t (vp_in_nI ht (by decide)), nI_clamp (by omega), br_t1 h]
theorem whyNone_1 {t : Nat} (ht : t < 4) {b : Nat → Int32} (h : ¬ b t = 0) : f_X8_whyNone (nI t) b = some (-1) := by
  unfold f_X8_whyNone
  rw [bd_t (isSheet8 _), br_kI, br_t1 (show rg 0 3 (nI t) from ⟨t, by omega, by omega, rfl⟩), gd_t (vp_in_nI ht (by decide)), nI_clamp (by omega), br_f1 h]
theorem isMissing_0 {x : Int32} (h : x = 0) : f_X5_isMissing x = some 1 := by unfold f_X5_isMissing; exact br_t1 h
theorem isMissing_1 {x : Int32} (h : ¬ x = 0) : f_X5_isMissing x = some 0 := by unfold f_X5_isMissing; exact br_f1 h
theorem ix40 (t k : Nat) : (40 : Int32) * nI t + nI k = nI (40 * t + k) := by
  rw [show (40 : Int32) = nI 40 from rfl, pk_mul, nI_add]
theorem va_up_s {α : Type} {g : Nat → α} {b : Nat} {v : α} : va_up g b v b = v := if_pos rfl
theorem va_up_n {α : Type} {g : Nat → α} {b j : Nat} {v : α} (h : j ≠ b) : va_up g b v j = g j := if_neg h
theorem RS_write {bits size : Nat → Int32} {numbers : Nat → Nat → Int32} {bitsOf sizeOf number : Nat → Int32} (h : RS bits size numbers bitsOf sizeOf number) {t k : Nat} (ht : t < 4) (hk : k < 40) (v : Int32) :
    RS bits size (va_up numbers t (upd (numbers t) k v)) bitsOf sizeOf (upd number (40 * t + k) v) := by
  intro u hu
  obtain ⟨h1, h2, h3, h4⟩ := h u hu
  refine ⟨h1, h2, h3, fun j hj => ?_⟩
  by_cases e : u = t
  · subst e
    rw [va_up_s]
    by_cases e2 : j = k
    · rw [e2, pk_us, pk_us]
    · rw [pk_un e2, pk_un (by omega), h4 j hj]
  · rw [va_up_n e, pk_un (by omega), h4 j hj]
theorem in_last {n : Nat} (hn : n < 2 ^ 30) (x : Int32) : f_X8_in x.toInt64 (0 : Int64) ((nI n - (1 : Int32)).toInt64) = some (kI (isb n x)) := by
  rw [in_e, kI_c]
  rw [isb_iff (by omega), Int32.toInt_toInt64, Int32.toInt_toInt64, show nI n - (1 : Int32) = nI n - nI 1 from rfl, pk_sub_toInt hn (by decide), show (0 : Int64).toInt = 0 from rfl]
  omega
theorem L_write (x1 x2 x3 : Int32) (cT_present_kind : Nat → Int32) (cT_present_above : Nat → Int32) (cT_present_edge : Nat → Int32) (cT_present_pool : Nat → Int32) (cT_present_store : Nat → Int32) (cT_present_spot : Nat → Int32) (vT_present_basins : Int32) (vT_present_spring : Int32) (vT_present_hour : Int32) (vT_present_z : Int32) (vT_pictured : Int32) (cT_picture_kind : Nat → Int32) (cT_picture_above : Nat → Int32) (cT_picture_edge : Nat → Int32) (cT_picture_pool : Nat → Int32) (cT_picture_store : Nat → Int32) (cT_picture_spot : Nat → Int32) (vT_picture_basins : Int32) (vT_picture_spring : Int32) (vT_picture_hour : Int32) (vT_picture_z : Int32) (cT_told : Nat → Int32) (cT_tape_bytes : Nat → Int32) (vT_tape_size : Int32) (vT_sheets_bits : Nat → Int32) (vT_sheets_size : Nat → Int32) (cT_sheets_numbers : Nat → Nat → Int32) (cM_d : Nat → Int32) (vM_isKept : Int32) (cM_kept : Nat → Int32) (cM_found : Nat → Int32) (cM_tape : Nat → Int32) (vM_taped : Int32) (cM_bitsOf : Nat → Int32) (cM_sizeOf : Nat → Int32) (cM_number : Nat → Int32) (hI : Inv cT_present_kind cT_present_above cT_present_edge cT_present_pool cT_present_store cT_present_spot vT_present_basins vT_present_spring vT_present_hour vT_present_z vT_pictured cT_picture_kind cT_picture_above cT_picture_edge cT_picture_pool cT_picture_store cT_picture_spot vT_picture_basins vT_picture_spring vT_picture_hour vT_picture_z cT_told cT_tape_bytes vT_tape_size vT_sheets_bits vT_sheets_size cT_sheets_numbers cM_d vM_isKept cM_kept cM_found cM_tape vM_taped cM_bitsOf cM_sizeOf cM_number) : ∃ (u : Int32 × (Nat → Nat → Int32) × (Nat → Int32)) (v : Int32 × (Nat → Int32) × (Nat → Int32)), f_X7_write x1 x2 x3 vT_pictured vT_sheets_bits vT_sheets_size cT_sheets_numbers cT_told = some u ∧ f_X8_write x1 x2 x3 cM_bitsOf cM_sizeOf cM_number cM_found = some v ∧ u.1 = v.1 ∧ Inv cT_present_kind cT_present_above cT_present_edge cT_present_pool cT_present_store cT_present_spot vT_present_basins vT_present_spring vT_present_hour vT_present_z vT_pictured cT_picture_kind cT_picture_above cT_picture_edge cT_picture_pool cT_picture_store cT_picture_spot vT_picture_basins vT_picture_spring vT_picture_hour vT_picture_z u.2.2 cT_tape_bytes vT_tape_size vT_sheets_bits vT_sheets_size u.2.1 cM_d vM_isKept cM_kept v.2.2 cM_tape vM_taped cM_bitsOf cM_sizeOf v.2.1 := by
  obtain ⟨hF, hI2, hT, hP, hS⟩ := hI
  unfold f_X7_write f_X8_write
  by_cases hs : rg 0 3 x1
  · rw [br_t1 (k_sheet_iff.mpr hs)]
    obtain ⟨t, -, ht3, rfl⟩ := hs
    have ht : t < 4 := by omega
    obtain ⟨hb1, hb2, ⟨n, hn, hs1, hs2⟩, hnum⟩ := hS t ht
    rw [nI_clamp (by omega)]
    by_cases hb : vT_sheets_bits t = 0
    · rw [bd_t (isMissing_0 hb), br_f1 (by decide), bd_t (tell5 _), bd_t (whyNone_0 ht (hb1 ▸ hb)), br_t1 (by decide)]
      unfold f_X8_write_J36
      rw [br_f1 (by decide), bd_t (finds5 _)]
      exact ⟨_, _, rfl, rfl, rfl, hF, hI2, RT_tell hT 5, hP, hS⟩
    · rw [bd_t (isMissing_1 hb), br_t1 rfl, bd_t (whyNone_1 ht (fun h => hb (hb1.trans h))), br_f1 (show ¬ (0 : Int32) ≤ -1 by decide), gd_t (vp_in_nI ht (by decide)), hs2, bd_t (in_last (by omega) x2), br_kI, hs1]
      by_cases hk : isb n x2
      · rw [br_t1 hk]
        obtain ⟨k, hk, rfl⟩ := hk
        rw [br_f1 (show ¬ nI k < 0 from nI_pos (by omega)), br_t1 (show nI k < nI n from nI_lt hk (by omega))]
        unfold f_X8_write_J36 f_X5_lowestBits
        have hv : vp_in (nI k) 40 := vp_in_nI (by omega) (by decide)
        rw [br_t1 (show (-1 : Int32) < 0 by decide), gd_t (vp_in_nI ht (by decide)), gd_t (vp_in_nI ht (by decide)), nI_clamp (show t < 2 ^ 31 by omega), nI_clamp (show k < 2 ^ 31 by omega), ix40, gd_t (vp_in_nI (by omega) (by decide)), gd_t (vp_in_nI (by omega) (by decide)), gd_t (vp_in_nI (by omega) (by decide)), nI_clamp (show 40 * t + k < 2 ^ 31 by omega), ← hb1]
        by_cases h8 : vT_sheets_bits t = 8
        · rw [br_t1 h8, br_t1 h8, bd_t rfl, gd_t hv]
          exact ⟨_, _, rfl, rfl, rfl, hF, hI2, hT, hP, RS_write hS ht (by omega) _⟩
        · rw [br_f1 h8, br_f1 h8]
          by_cases h16 : vT_sheets_bits t = 16
          · rw [br_t1 h16, br_t1 h16, bd_t rfl, gd_t hv]
            exact ⟨_, _, rfl, rfl, rfl, hF, hI2, hT, hP, RS_write hS ht (by omega) _⟩
          · rw [br_f1 h16, br_f1 h16, bd_t rfl, gd_t hv]
            exact ⟨_, _, rfl, rfl, rfl, hF, hI2, hT, hP, RS_write hS ht (by omega) _⟩
      · rw [br_f1 hk]
        unfold f_X8_write_J36
        rw [br_f1 (show ¬ (0 : Int32) < 0 by decide), bd_t (finds0 _), bd_t (tell0 _)]
        have e7 : ∀ {A : Type} (X Z : Option A), br (x2 < 0) X (br (x2 < nI n) Z X) = X := by
          intro A X Z
          by_cases h0 : x2 < 0
          · rw [br_t1 h0]
          · rw [br_f1 h0, br_f1]
            intro h1
            apply hk
            rw [isb_iff (by omega)]
            rw [Int32.lt_iff_toInt_lt, nI_toInt (by omega)] at h1
            rw [Int32.lt_iff_toInt_lt, show (0 : Int32).toInt = 0 from rfl] at h0
            omega
        rw [e7]
        exact ⟨_, _, rfl, rfl, rfl, hF, hI2, RT_tell hT 0, hP, hS⟩
  · rw [br_f1 (fun h => hs (k_sheet_iff.mp h)), bd_t (tell0 _), bd_t (whyNone_n hs _), br_t1 (by decide)]
    unfold f_X8_write_J36
    rw [br_f1 (by decide), bd_t (finds0 _)]
    exact ⟨_, _, rfl, rfl, rfl, hF, hI2, RT_tell hT 0, hP, hS⟩
theorem begin_e (b z : Int32) (b0 z0 : Int32) (nu : Nat → Int32) : ∃ c : Nat → Int32, f_X5_begin b z b0 z0 nu = some (b, z, c) ∧ ∀ k, k < 40 → c k = 0 := by
  unfold f_X5_begin f_X5_begin_L12
  refine lp_go _ (fun i (s : Int32 × Int32 × Int32 × (Nat → Int32)) => s.1 = nI i ∧ s.2.1 = b ∧ s.2.2.1 = z ∧ ∀ k, k < i → s.2.2.2 k = 0) 40 (fun o => ∃ c : Nat → Int32, o = some (b, z, c) ∧ ∀ k, k < 40 → c k = 0) ?_ ((0 : Int32), b, z, nu) ⟨rfl, rfl, rfl, fun k hk => absurd hk (by omega)⟩ (FU_gt (by decide))
  rintro i ⟨y, b1, z1, c⟩ hi ⟨h1, h2, h3, h4⟩
  dsimp only at h1 h2 h3 h4
  subst h1 h2 h3
  by_cases h : i = 40
  · left
    intro rc
    subst h
    refine ⟨c, ?_, h4⟩
    show f_X5_begin_L12_b b1 z1 rc (nI 40) b1 z1 c = _
    unfold f_X5_begin_L12_b
    exact br_t1 (by decide)
  · right
    refine ⟨by omega, (nI i + 1, b1, z1, upd c i 0), ⟨nI_1 i, rfl, rfl, fun k hk => ?_⟩, fun rc => ?_⟩
    · show upd c i 0 k = 0
      by_cases e : k = i
      · rw [e, pk_us]
      · rw [pk_un e, h4 k (by omega)]
    · show f_X5_begin_L12_b b1 z1 rc (nI i) b1 z1 c = _
      unfold f_X5_begin_L12_b
      rw [br_f1 (show ¬ (40 : Int32) ≤ nI i from nI_ge (a := i) (b := 40) (by omega) (by decide)), gd_t (vp_in_nI (by omega) (by decide)), nI_clamp (by omega)]
theorem zero8 {t : Nat} (ht : t < 4) (x2 x3 : Int32) (found bo so nu : Nat → Int32) : ∃ c : Nat → Int32, f_X8_sheet_L83 (nI t) x2 x3 FU ((0 : Int32), found, bo, so, nu) = some (so t, found, bo, so, c) ∧ (∀ k, k < 40 → c (40 * t + k) = 0) ∧ ∀ j, (j < 40 * t ∨ 40 * t + 40 ≤ j) → c j = nu j := by
  unfold f_X8_sheet_L83
  refine lp_go _ (fun i (s : Int32 × (Nat → Int32) × (Nat → Int32) × (Nat → Int32) × (Nat → Int32)) => s.1 = nI i ∧ s.2.1 = found ∧ s.2.2.1 = bo ∧ s.2.2.2.1 = so ∧ (∀ k, k < i → s.2.2.2.2 (40 * t + k) = 0) ∧ ∀ j, (j < 40 * t ∨ 40 * t + 40 ≤ j) → s.2.2.2.2 j = nu j) 40
    (fun o => ∃ c : Nat → Int32, o = some (so t, found, bo, so, c) ∧ (∀ k, k < 40 → c (40 * t + k) = 0) ∧ ∀ j, (j < 40 * t ∨ 40 * t + 40 ≤ j) → c j = nu j) ?_ ((0 : Int32), found, bo, so, nu) ⟨rfl, rfl, rfl, rfl, fun k hk => absurd hk (by omega), fun _ _ => rfl⟩ (FU_gt (by decide))
  rintro i ⟨y, f1, b1, s1, c⟩ hi ⟨h1, h2, h3, h4, h5, h6⟩
  dsimp only at h1 h2 h3 h4 h5 h6
  subst h1 h2 h3 h4
  by_cases h : i = 40
  · left
    intro rc
    subst h
    refine ⟨c, ?_, h5, h6⟩
    show f_X8_sheet_L83_b (nI t) x2 x3 rc (nI 40) f1 b1 s1 c = _
    unfold f_X8_sheet_L83_b
    rw [br_t1 (by decide), gd_t (vp_in_nI ht (by decide)), nI_clamp (by omega)]
  · right
    refine ⟨by omega, (nI i + 1, f1, b1, s1, upd c (40 * t + i) 0), ⟨nI_1 i, rfl, rfl, rfl, fun k hk => ?_, fun j hj => ?_⟩, fun rc => ?_⟩
    · show upd c (40 * t + i) 0 (40 * t + k) = 0
      by_cases e : k = i
      · rw [e, pk_us]
      · rw [pk_un (by omega), h5 k (by omega)]
    · show upd c (40 * t + i) 0 j = nu j
      rw [pk_un (by omega), h6 j hj]
    · show f_X8_sheet_L83_b (nI t) x2 x3 rc (nI i) f1 b1 s1 c = _
      unfold f_X8_sheet_L83_b
      rw [br_f1 (show ¬ (40 : Int32) ≤ nI i from nI_ge (a := i) (b := 40) (by omega) (by decide)), ix40, gd_t (vp_in_nI (by omega) (by decide)), nI_clamp (by omega)]
theorem RS_begin {bits size : Nat → Int32} {numbers : Nat → Nat → Int32} {bitsOf sizeOf number : Nat → Int32} (h : RS bits size numbers bitsOf sizeOf number) {t n : Nat} (ht : t < 4) (hn : n ≤ 40) {b : Int32} (hb : b = 0 ∨ b = 8 ∨ b = 16 ∨ b = 32) {c c2 : Nat → Int32} (hc : ∀ k, k < 40 → c k = 0) (hc2 : ∀ k, k < 40 → c2 (40 * t + k) = 0) (hc3 : ∀ j, (j < 40 * t ∨ 40 * t + 40 ≤ j) → c2 j = number j) :
    RS (va_up bits t b) (va_up size t (nI n)) (va_up numbers t c) (upd bitsOf t b) (upd sizeOf t (nI n)) c2 := by
  intro u hu
  obtain ⟨h1, h2, h3, h4⟩ := h u hu
  by_cases e : u = t
  · subst e
    rw [va_up_s, va_up_s, va_up_s, pk_us, pk_us]
    exact ⟨rfl, hb, ⟨n, hn, rfl, rfl⟩, fun k hk => (hc k hk).trans (hc2 k hk).symm⟩
  · rw [va_up_n e, va_up_n e, va_up_n e, pk_un e, pk_un e]
    exact ⟨h1, h2, h3, fun k hk => (h4 k hk).trans (hc3 _ (by omega)).symm⟩
