/-! ===== cases: image, undo; copies of a fountain ===== -/
theorem copies_e (a b : Nat → Int32) : ∃ c : Nat → Int32, f_X8_copies a b = some c ∧ ∀ k, k < 64 → c k = a k := by
  unfold f_X8_copies f_X8_copies_L2
  refine lp_go _ (fun i (s : Int32 × (Nat → Int32)) => s.1 = nI i ∧ ∀ k, k < i → s.2 k = a k) 64 (fun x => ∃ c : Nat → Int32, x = some c ∧ ∀ k, k < 64 → c k = a k) ?_ ((0 : Int32), b) ⟨rfl, fun k hk => absurd hk (by omega)⟩ (FU_gt (by decide))
  rintro i ⟨y, c⟩ hi ⟨hy, hc⟩
  dsimp only at hy hc
  subst hy
  by_cases h : i = 64
  · left
    intro rc
    subst h
    refine ⟨c, ?_, hc⟩
    show f_X8_copies_L2_b a rc (nI 64) c = some c
    unfold f_X8_copies_L2_b
    exact br_t1 (by decide)
  · right
    have hv : vp_in (nI i) 64 := vp_in_nI (by omega) (by decide)
    refine ⟨by omega, (nI i + 1, upd c (nI i).toNatClampNeg (a (nI i).toNatClampNeg)), ⟨nI_1 i, fun k hk => ?_⟩, fun rc => ?_⟩
    · show upd c (nI i).toNatClampNeg (a (nI i).toNatClampNeg) k = a k
      rw [nI_clamp (by omega)]
      by_cases e : k = i
      · rw [e, pk_us]
      · rw [pk_un e, hc k (by omega)]
    · show f_X8_copies_L2_b a rc (nI i) c = rc (nI i + 1, upd c (nI i).toNatClampNeg (a (nI i).toNatClampNeg))
      unfold f_X8_copies_L2_b
      rw [br_f1 (show ¬ (64 : Int32) ≤ nI i from nI_ge (a := i) (b := 64) (by omega) (by decide)), gd_t hv, gd_t hv]
theorem MF_cong {f : Fo} {d c : Nat → Int32} (hn : f.n ≤ 10) (h : MF f d) (hc : ∀ k, k < 64 → c k = d k) : MF f c := by
  obtain ⟨h0, h1, h2, h3, h4, h5⟩ := h
  refine ⟨(hc 0 (by decide)).trans h0, (hc 1 (by decide)).trans h1, (hc 2 (by decide)).trans h2, (hc 3 (by decide)).trans h3, fun b hb => ?_, fun k hk => (hc _ (by omega)).trans (h5 k hk)⟩
  obtain ⟨a1, a2, a3, a4, a5⟩ := h4 b hb
  exact ⟨(hc _ (by omega)).trans a1, (hc _ (by omega)).trans a2, (hc _ (by omega)).trans a3, (hc _ (by omega)).trans a4, (hc _ (by omega)).trans a5⟩
theorem cpy10 (g h : Nat → Int32) {j : Nat} (hj : j < 10) : va_cpy g h (0 : Int32).toNatClampNeg (0 : Int32).toNatClampNeg (10 : Int32).toNatClampNeg j = g j := by
  have e : va_cpy g h 0 0 10 j = g (0 + (j - 0)) := pk_cpy_in (Nat.zero_le j) (by omega)
  rw [Nat.zero_add, Nat.sub_zero] at e
  exact e
theorem CF_cpy {f : Fo} (hn : f.n ≤ 10) {kind above edge pool store spot : Nat → Int32} {basins spring hour z : Int32} (k2 a2 e2 p2 s2 t2 : Nat → Int32) (h : CF f kind above edge pool store spot basins spring hour z) :
    CF f (va_cpy kind k2 (0 : Int32).toNatClampNeg (0 : Int32).toNatClampNeg (10 : Int32).toNatClampNeg) (va_cpy above a2 (0 : Int32).toNatClampNeg (0 : Int32).toNatClampNeg (10 : Int32).toNatClampNeg) (va_cpy edge e2 (0 : Int32).toNatClampNeg (0 : Int32).toNatClampNeg (10 : Int32).toNatClampNeg) (va_cpy pool p2 (0 : Int32).toNatClampNeg (0 : Int32).toNatClampNeg (10 : Int32).toNatClampNeg) (va_cpy store s2 (0 : Int32).toNatClampNeg (0 : Int32).toNatClampNeg (10 : Int32).toNatClampNeg) (va_cpy spot t2 (0 : Int32).toNatClampNeg (0 : Int32).toNatClampNeg (10 : Int32).toNatClampNeg) basins spring hour z := by
  obtain ⟨h0, h1, h2, h3, h4, h5⟩ := h
  refine ⟨h0, h1, h2, h3, fun b hb => ?_, fun k hk => (cpy10 _ _ hk).trans (h5 k hk)⟩
  obtain ⟨a1, a2', a3, a4, a5⟩ := h4 b hb
  have hb' : b < 10 := by omega
  exact ⟨(cpy10 _ _ hb').trans a1, (cpy10 _ _ hb').trans a2', (cpy10 _ _ hb').trans a3, (cpy10 _ _ hb').trans a4, (cpy10 _ _ hb').trans a5⟩
theorem L_image (cT_present_kind : Nat → Int32) (cT_present_above : Nat → Int32) (cT_present_edge : Nat → Int32) (cT_present_pool : Nat → Int32) (cT_present_store : Nat → Int32) (cT_present_spot : Nat → Int32) (vT_present_basins : Int32) (vT_present_spring : Int32) (vT_present_hour : Int32) (vT_present_z : Int32) (vT_pictured : Int32) (cT_picture_kind : Nat → Int32) (cT_picture_above : Nat → Int32) (cT_picture_edge : Nat → Int32) (cT_picture_pool : Nat → Int32) (cT_picture_store : Nat → Int32) (cT_picture_spot : Nat → Int32) (vT_picture_basins : Int32) (vT_picture_spring : Int32) (vT_picture_hour : Int32) (vT_picture_z : Int32) (cT_told : Nat → Int32) (cT_tape_bytes : Nat → Int32) (vT_tape_size : Int32) (vT_sheets_bits : Nat → Int32) (vT_sheets_size : Nat → Int32) (cT_sheets_numbers : Nat → Nat → Int32) (cM_d : Nat → Int32) (vM_isKept : Int32) (cM_kept : Nat → Int32) (cM_found : Nat → Int32) (cM_tape : Nat → Int32) (vM_taped : Int32) (cM_bitsOf : Nat → Int32) (cM_sizeOf : Nat → Int32) (cM_number : Nat → Int32) (hI : Inv cT_present_kind cT_present_above cT_present_edge cT_present_pool cT_present_store cT_present_spot vT_present_basins vT_present_spring vT_present_hour vT_present_z vT_pictured cT_picture_kind cT_picture_above cT_picture_edge cT_picture_pool cT_picture_store cT_picture_spot vT_picture_basins vT_picture_spring vT_picture_hour vT_picture_z cT_told cT_tape_bytes vT_tape_size vT_sheets_bits vT_sheets_size cT_sheets_numbers cM_d vM_isKept cM_kept cM_found cM_tape vM_taped cM_bitsOf cM_sizeOf cM_number) : ∃ (u : Int32 × Int32 × Int32 × Int32 × Int32 × Int32 × (Nat → Int32) × (Nat → Int32) × (Nat → Int32) × (Nat → Int32) × (Nat → Int32) × (Nat → Int32)) (v : Int32 × Int32 × (Nat → Int32)), f_X7_image vT_pictured vT_picture_basins vT_picture_spring vT_picture_hour vT_picture_z vT_present_basins vT_present_spring vT_present_hour vT_present_z cT_present_kind cT_picture_kind cT_present_above cT_picture_above cT_present_edge cT_picture_edge cT_present_pool cT_picture_pool cT_present_store cT_picture_store cT_present_spot cT_picture_spot = some u ∧ f_X8_image vM_isKept cM_d cM_kept = some v ∧ u.1 = v.1 ∧ Inv cT_present_kind cT_present_above cT_present_edge cT_present_pool cT_present_store cT_present_spot vT_present_basins vT_present_spring vT_present_hour vT_present_z u.2.1 u.2.2.2.2.2.2.1 u.2.2.2.2.2.2.2.1 u.2.2.2.2.2.2.2.2.1 u.2.2.2.2.2.2.2.2.2.1 u.2.2.2.2.2.2.2.2.2.2.1 u.2.2.2.2.2.2.2.2.2.2.2 u.2.2.1 u.2.2.2.1 u.2.2.2.2.1 u.2.2.2.2.2.1 cT_told cT_tape_bytes vT_tape_size vT_sheets_bits vT_sheets_size cT_sheets_numbers cM_d v.2.1 v.2.2 cM_found cM_tape vM_taped cM_bitsOf cM_sizeOf cM_number := by
  obtain ⟨⟨f, hV, hC, hM⟩, hI2, hT, hP, hS⟩ := hI
  obtain ⟨c, hc, hc2⟩ := copies_e cM_d cM_kept
  unfold f_X7_image f_X8_image
  rw [bd_t hc, bd_t (show f_X2_become vT_present_basins vT_present_spring vT_present_hour vT_present_z vT_picture_basins vT_picture_spring vT_picture_hour vT_picture_z cT_present_kind cT_picture_kind cT_present_above cT_picture_above cT_present_edge cT_picture_edge cT_present_pool cT_picture_pool cT_present_store cT_picture_store cT_present_spot cT_picture_spot = some _ from rfl)]
  exact ⟨_, _, rfl, rfl, rfl, ⟨f, hV, hC, hM⟩, Or.inr ⟨rfl, rfl, f, hV, CF_cpy hV.1 _ _ _ _ _ _ hC, MF_cong hV.1 hM hc2⟩, hT, hP, hS⟩
theorem L_undo (cT_present_kind : Nat → Int32) (cT_present_above : Nat → Int32) (cT_present_edge : Nat → Int32) (cT_present_pool : Nat → Int32) (cT_present_store : Nat → Int32) (cT_present_spot : Nat → Int32) (vT_present_basins : Int32) (vT_present_spring : Int32) (vT_present_hour : Int32) (vT_present_z : Int32) (vT_pictured : Int32) (cT_picture_kind : Nat → Int32) (cT_picture_above : Nat → Int32) (cT_picture_edge : Nat → Int32) (cT_picture_pool : Nat → Int32) (cT_picture_store : Nat → Int32) (cT_picture_spot : Nat → Int32) (vT_picture_basins : Int32) (vT_picture_spring : Int32) (vT_picture_hour : Int32) (vT_picture_z : Int32) (cT_told : Nat → Int32) (cT_tape_bytes : Nat → Int32) (vT_tape_size : Int32) (vT_sheets_bits : Nat → Int32) (vT_sheets_size : Nat → Int32) (cT_sheets_numbers : Nat → Nat → Int32) (cM_d : Nat → Int32) (vM_isKept : Int32) (cM_kept : Nat → Int32) (cM_found : Nat → Int32) (cM_tape : Nat → Int32) (vM_taped : Int32) (cM_bitsOf : Nat → Int32) (cM_sizeOf : Nat → Int32) (cM_number : Nat → Int32) (hI : Inv cT_present_kind cT_present_above cT_present_edge cT_present_pool cT_present_store cT_present_spot vT_present_basins vT_present_spring vT_present_hour vT_present_z vT_pictured cT_picture_kind cT_picture_above cT_picture_edge cT_picture_pool cT_picture_store cT_picture_spot vT_picture_basins vT_picture_spring vT_picture_hour vT_picture_z cT_told cT_tape_bytes vT_tape_size vT_sheets_bits vT_sheets_size cT_sheets_numbers cM_d vM_isKept cM_kept cM_found cM_tape vM_taped cM_bitsOf cM_sizeOf cM_number) : ∃ (u : Int32 × Int32 × Int32 × Int32 × Int32 × (Nat → Int32) × (Nat → Int32) × (Nat → Int32) × (Nat → Int32) × (Nat → Int32) × (Nat → Int32) × (Nat → Int32)) (v : Int32 × (Nat → Int32) × (Nat → Int32)), f_X7_undo vT_pictured vT_present_basins vT_present_spring vT_present_hour vT_present_z vT_picture_basins vT_picture_spring vT_picture_hour vT_picture_z cT_picture_kind cT_present_kind cT_picture_above cT_present_above cT_picture_edge cT_present_edge cT_picture_pool cT_present_pool cT_picture_store cT_present_store cT_picture_spot cT_present_spot cT_told = some u ∧ f_X8_undo vM_isKept cM_kept cM_d cM_found = some v ∧ u.1 = v.1 ∧ Inv u.2.2.2.2.2.1 u.2.2.2.2.2.2.1 u.2.2.2.2.2.2.2.1 u.2.2.2.2.2.2.2.2.1 u.2.2.2.2.2.2.2.2.2.1 u.2.2.2.2.2.2.2.2.2.2.1 u.2.1 u.2.2.1 u.2.2.2.1 u.2.2.2.2.1 vT_pictured cT_picture_kind cT_picture_above cT_picture_edge cT_picture_pool cT_picture_store cT_picture_spot vT_picture_basins vT_picture_spring vT_picture_hour vT_picture_z u.2.2.2.2.2.2.2.2.2.2.2 cT_tape_bytes vT_tape_size vT_sheets_bits vT_sheets_size cT_sheets_numbers v.2.1 vM_isKept cM_kept v.2.2 cM_tape vM_taped cM_bitsOf cM_sizeOf cM_number := by
  obtain ⟨⟨f, hV, hC, hM⟩, hI2, hT, hP, hS⟩ := hI
  unfold f_X7_undo f_X8_undo
  rcases hI2 with ⟨h1, h2⟩ | ⟨h1, h2, g, gV, gC, gM⟩
  · subst h1; subst h2
    rw [br_t1 rfl, br_t1 rfl, bd_t (tell3 _), bd_t (finds3 _)]
    exact ⟨_, _, rfl, rfl, rfl, ⟨f, hV, hC, hM⟩, Or.inl ⟨rfl, rfl⟩, RT_tell hT 3, hP, hS⟩
  · subst h1; subst h2
    obtain ⟨c, hc, hc2⟩ := copies_e cM_kept cM_d
    rw [br_f1 (by decide), br_f1 (by decide), bd_t hc, bd_t (show f_X2_become vT_picture_basins vT_picture_spring vT_picture_hour vT_picture_z vT_present_basins vT_present_spring vT_present_hour vT_present_z cT_picture_kind cT_present_kind cT_picture_above cT_present_above cT_picture_edge cT_present_edge cT_picture_pool cT_present_pool cT_picture_store cT_present_store cT_picture_spot cT_present_spot = some _ from rfl)]
    exact ⟨_, _, rfl, rfl, gC.2.2.1.trans (((hc2 1 (by decide)).trans gM.2.1).symm), ⟨g, gV, CF_cpy gV.1 _ _ _ _ _ _ gC, MF_cong gV.1 gM hc2⟩, Or.inr ⟨rfl, rfl, g, gV, gC, gM⟩, hT, hP, hS⟩
