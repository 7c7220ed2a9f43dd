/-! ===== hours that go on, hours that are tried ===== -/
theorem goOn_e {f : Fo} (hV : VG f) {d : Nat → Int32} (hM : MF f d) {k : Nat} (hk : k ≤ 1000) (vl vk vo : Int32) (came got held off : Nat → Int32) :
    ∃ (vl' vk' vo' : Int32) (d' c g h o : Nat → Int32), f_X8_goOn (nI k) vl vk vo d came got held off = some (nI (f.kpT k), vl', vk', vo', d', c, g, h, o) ∧ MF (f.it k) d' := by
  unfold f_X8_goOn f_X8_goOn_L4
  refine lp_go2 _ (fun i (s : Int32 × Int32 × Int32 × Int32 × Int32 × (Nat → Int32) × (Nat → Int32) × (Nat → Int32) × (Nat → Int32) × (Nat → Int32)) => s.1 = nI (f.kpT i) ∧ s.2.1 = nI i ∧ MF (f.it i) s.2.2.2.2.2.1) k
    (fun r => ∃ (vl' vk' vo' : Int32) (d' c g h o : Nat → Int32), r = some (nI (f.kpT k), vl', vk', vo', d', c, g, h, o) ∧ MF (f.it k) d') ?_ ((0 : Int32), (0 : Int32), vl, vk, vo, d, came, got, held, off) ⟨rfl, rfl, hM⟩ (FU_gt (by omega))
  rintro i ⟨a, y, vl, vk, vo, d1, c1, g1, h1, o1⟩ hi ⟨a1, a2, a3⟩ rc
  dsimp only at a1 a2 a3
  subst a1 a2
  show (∃ (vl' vk' vo' : Int32) (d' c g h o : Nat → Int32), f_X8_goOn_L4_b (nI k) rc _ (nI i) vl vk vo d1 c1 g1 h1 o1 = some _ ∧ _) ∨ (i < k ∧ ∃ s', _ ∧ f_X8_goOn_L4_b (nI k) rc _ (nI i) vl vk vo d1 c1 g1 h1 o1 = rc s')
  unfold f_X8_goOn_L4_b
  by_cases hik : i = k
  · left
    subst hik
    exact ⟨vl, vk, vo, d1, c1, g1, h1, o1, br_t1 (nI_le (Nat.le_refl _) (by omega)), a3⟩
  · right
    have hi' : i < k := by omega
    refine ⟨hi', ?_⟩
    obtain ⟨d', c, g, h, o, hH, hM', -⟩ := hour_e (VG_it hV i) a3 vl vk vo c1 g1 h1 o1
    dsimp only
    rw [br_f1 (nI_ge hi' (by omega)), bd_t hH, nm_q]
    refine ⟨_, ⟨nI_add _ _, nI_1 i, ?_⟩, rfl⟩
    exact hM'
theorem tries_e {f : Fo} (hV : VG f) {d : Nat → Int32} (hM : MF f d) {k : Nat} (hk : k ≤ 1000) (vl vk vo va vb vc : Int32) (F came got held off gets : Nat → Int32) :
    ∃ (vl' vk' vo' : Int32) (d' F' c g h o gs : Nat → Int32), f_X8_tries (nI k) vl vk vo va vb vc d F came got held off gets = some (vl', vk', vo', nI (f.roT k), nI (f.lkT k), nI (f.kpT k), d', F', c, g, h, o, gs) ∧ (∀ i, i < 64 → d' i = d i) ∧ ∀ b, b < f.n → gs b = nI (f.gt k b) := by
  have hn := hV.1
  obtain ⟨F1, hF1, hF2⟩ := copies_e d F
  unfold f_X8_tries
  rw [bd_t hF1]
  unfold f_X8_tries_L28
  refine lp_go2 _ (fun i (s : Int32 × Int32 × Int32 × Int32 × Int32 × Int32 × Int32 × (Nat → Int32) × (Nat → Int32) × (Nat → Int32) × (Nat → Int32) × (Nat → Int32) × (Nat → Int32) × (Nat → Int32)) =>
      s.1 = nI i ∧ s.2.2.2.2.1 = 0 ∧ s.2.2.2.2.2.1 = 0 ∧ s.2.2.2.2.2.2.1 = 0 ∧ s.2.2.2.2.2.2.2.1 = d ∧ s.2.2.2.2.2.2.2.2.1 = F1 ∧ ∀ b, b < i → s.2.2.2.2.2.2.2.2.2.2.2.2.2 b = 0) 10
    (fun r => ∃ (vl' vk' vo' : Int32) (d' F' c g h o gs : Nat → Int32), r = some (vl', vk', vo', nI (f.roT k), nI (f.lkT k), nI (f.kpT k), d', F', c, g, h, o, gs) ∧ (∀ i, i < 64 → d' i = d i) ∧ ∀ b, b < f.n → gs b = nI (f.gt k b))
    ?_ ((0 : Int32), vl, vk, vo, (0 : Int32), (0 : Int32), (0 : Int32), d, F1, came, got, held, off, gets) ⟨rfl, rfl, rfl, rfl, rfl, rfl, fun b hb => absurd hb (by omega)⟩ (FU_gt (by decide))
  rintro i ⟨y, vl, vk, vo, va, vb, vc, d1, f1, c1, g1, h1, o1, s1⟩ hi ⟨a1, a2, a3, a4, a5, a6, a7⟩ rc
  dsimp only at a1 a2 a3 a4 a5 a6 a7
  subst a1 a2 a3 a4 a5 a6
  show (∃ (vl' vk' vo' : Int32) (d' F' c g h o gs : Nat → Int32), f_X8_tries_L28_b (nI k) rc (nI i) vl vk vo 0 0 0 d1 f1 c1 g1 h1 o1 s1 = some _ ∧ _) ∨ (i < 10 ∧ ∃ s', _ ∧ f_X8_tries_L28_b (nI k) rc (nI i) vl vk vo 0 0 0 d1 f1 c1 g1 h1 o1 s1 = rc s')
  unfold f_X8_tries_L28_b
  by_cases hx : i = 10
  · left
    subst hx
    rw [br_t1 (show (10 : Int32) ≤ nI 10 by decide)]
    clear rc
    unfold f_X8_tries_L49
    refine lp_go2 _ (fun i (s : Int32 × Int32 × Int32 × Int32 × Int32 × Int32 × Int32 × (Nat → Int32) × (Nat → Int32) × (Nat → Int32) × (Nat → Int32) × (Nat → Int32) × (Nat → Int32) × (Nat → Int32)) =>
        s.1 = nI i ∧ s.2.2.2.2.1 = nI (f.roT i) ∧ s.2.2.2.2.2.1 = nI (f.lkT i) ∧ s.2.2.2.2.2.2.1 = nI (f.kpT i) ∧ MF (f.it i) s.2.2.2.2.2.2.2.1 ∧ s.2.2.2.2.2.2.2.2.1 = f1 ∧ ∀ b, b < f.n → s.2.2.2.2.2.2.2.2.2.2.2.2.2 b = nI (f.gt i b)) k
      (fun r => ∃ (vl' vk' vo' : Int32) (d' F' c g h o gs : Nat → Int32), r = some (vl', vk', vo', nI (f.roT k), nI (f.lkT k), nI (f.kpT k), d', F', c, g, h, o, gs) ∧ (∀ i, i < 64 → d' i = d1 i) ∧ ∀ b, b < f.n → gs b = nI (f.gt k b))
      ?_ ((0 : Int32), vl, vk, vo, (0 : Int32), (0 : Int32), (0 : Int32), d1, f1, c1, g1, h1, o1, s1) ⟨rfl, rfl, rfl, rfl, hM, rfl, fun b hb => a7 b (by omega)⟩ (FU_gt (by omega))
    rintro i ⟨y, vl, vk, vo, va, vb, vc, d2, f2, c2, g2, h2, o2, s2⟩ hi ⟨a1, a2, a3, a4, a5, a6, a7⟩ rc
    dsimp only at a1 a2 a3 a4 a5 a6 a7
    subst a1 a2 a3 a4 a6
    show (∃ (vl' vk' vo' : Int32) (d' F' c g h o gs : Nat → Int32), f_X8_tries_L49_b (nI k) rc (nI i) vl vk vo _ _ _ d2 f2 c2 g2 h2 o2 s2 = some _ ∧ _) ∨ (i < k ∧ ∃ s', _ ∧ f_X8_tries_L49_b (nI k) rc (nI i) vl vk vo _ _ _ d2 f2 c2 g2 h2 o2 s2 = rc s')
    unfold f_X8_tries_L49_b
    by_cases hik : i = k
    · left
      subst hik
      dsimp only
      rw [br_t1 (nI_le (Nat.le_refl _) (by omega))]
      unfold f_X8_tries_J136
      obtain ⟨D, hD, hD2⟩ := copies_e f2 d2
      rw [bd_t hD]
      exact ⟨_, _, _, D, _, _, _, _, _, _, rfl, fun j hj => (hD2 j hj).trans (hF2 j hj), a7⟩
    · right
      have hi' : i < k := by omega
      refine ⟨hi', ?_⟩
      obtain ⟨d', c, g, h, o, hH, hM', hg⟩ := hour_e (VG_it hV i) a5 vl vk vo c2 g2 h2 o2
      rw [(it_same f i).1] at hg
      dsimp only
      rw [br_f1 (nI_ge hi' (by omega)), bd_t hH]
      dsimp only
      unfold f_X8_tries_L99
      refine lp_go2 _ (fun j (s : Int32 × Int32 × Int32 × Int32 × Int32 × Int32 × Int32 × Int32 × (Nat → Int32) × (Nat → Int32) × (Nat → Int32) × (Nat → Int32) × (Nat → Int32) × (Nat → Int32) × (Nat → Int32)) =>
          s.1 = nI i ∧ s.2.1 = nI j ∧ s.2.2.2.2.2.1 = nI (f.roT (i + 1)) ∧ s.2.2.2.2.2.2.1 = nI (f.lkT (i + 1)) ∧ s.2.2.2.2.2.2.2.1 = nI (f.kpT (i + 1)) ∧ s.2.2.2.2.2.2.2.2.1 = d' ∧ s.2.2.2.2.2.2.2.2.2.1 = f2 ∧ s.2.2.2.2.2.2.2.2.2.2.2.1 = g ∧ ∀ b, b < f.n → s.2.2.2.2.2.2.2.2.2.2.2.2.2.2 b = nI (if b < j then f.gt (i + 1) b else f.gt i b)) f.n
        (fun r => ∃ s' : Int32 × Int32 × Int32 × Int32 × Int32 × Int32 × Int32 × (Nat → Int32) × (Nat → Int32) × (Nat → Int32) × (Nat → Int32) × (Nat → Int32) × (Nat → Int32) × (Nat → Int32), (s'.1 = nI (i + 1) ∧ s'.2.2.2.2.1 = nI (f.roT (i + 1)) ∧ s'.2.2.2.2.2.1 = nI (f.lkT (i + 1)) ∧ s'.2.2.2.2.2.2.1 = nI (f.kpT (i + 1)) ∧ MF (f.it (i + 1)) s'.2.2.2.2.2.2.2.1 ∧ s'.2.2.2.2.2.2.2.2.1 = f2 ∧ ∀ b, b < f.n → s'.2.2.2.2.2.2.2.2.2.2.2.2.2 b = nI (f.gt (i + 1) b)) ∧ r = rc s')
        ?_ _ ⟨rfl, rfl, nI_add _ _, nI_add _ _, nI_add _ _, rfl, rfl, rfl, fun b hb => a7 b hb⟩ (FU_gt (by omega))
      rintro j ⟨y2, y3, vl, vk, vo, va, vb, vc, d3, f3, c3, g3, h3, o3, s3⟩ hj ⟨b1, b2, b3, b4, b5, b6, b7, b8, b9⟩ rc2
      dsimp only at b1 b2 b3 b4 b5 b6 b7 b8 b9
      subst b1 b2 b3 b4 b5 b6 b7 b8
      show (∃ s', _ ∧ f_X8_tries_L99_b (nI k) rc rc2 (nI i) (nI j) vl vk vo _ _ _ d3 f3 c3 g3 h3 o3 s3 = rc s') ∨ (j < f.n ∧ ∃ s', _ ∧ f_X8_tries_L99_b (nI k) rc rc2 (nI i) (nI j) vl vk vo _ _ _ d3 f3 c3 g3 h3 o3 s3 = rc2 s')
      unfold f_X8_tries_L99_b
      rw [show d3 (0 : Int32).toNatClampNeg = nI f.n from hM'.1.trans (congrArg nI (it_same f i).1)]
      by_cases hjn : j = f.n
      · left
        subst hjn
        dsimp only
        rw [br_t1 (nI_le (Nat.le_refl _) (by omega))]
        refine ⟨_, ⟨nI_1 i, rfl, rfl, rfl, ?_, rfl, fun b hb => (b9 b hb).trans (congrArg nI (if_pos hb))⟩, rfl⟩
        exact hM'
      · right
        have hj' : j < f.n := by omega
        refine ⟨hj', ?_⟩
        have v : vp_in (nI j) 10 := vp_in_nI (by omega) (by decide)
        dsimp only
        rw [br_f1 (nI_ge hj' (by omega)), gd_t v, gd_t v, gd_t v, nI_clamp (by omega)]
        refine ⟨_, ⟨rfl, nI_1 j, rfl, rfl, rfl, rfl, rfl, rfl, fun b hb => ?_⟩, rfl⟩
        dsimp only
        by_cases e : b = j
        · rw [e, pk_us, b9 j hj', hg j hj', nI_add, if_neg (by omega), if_pos (by omega)]
          rfl
        · rw [pk_un e, b9 b hb]
          by_cases q : b < j
          · rw [if_pos q, if_pos (by omega)]
          · rw [if_neg q, if_neg (by omega)]
  · right
    refine ⟨by omega, ?_⟩
    rw [br_f1 (show ¬ (10 : Int32) ≤ nI i from nI_ge (b := 10) (by omega) (by decide)), gd_t (vp_in_nI (by omega) (by decide)), nI_clamp (by omega)]
    refine ⟨_, ⟨nI_1 i, rfl, rfl, rfl, rfl, rfl, fun b hb => ?_⟩, rfl⟩
    show upd s1 i 0 b = 0
    by_cases e : b = i
    · rw [e, pk_us]
    · rw [pk_un e, a7 b (by omega)]
theorem start_e {f : Fo} (hn : f.n ≤ 10) {kind above edge pool store spot : Nat → Int32} {basins spring hour z : Int32} (hC : CF f kind above edge pool store spot basins spring hour z) (tb ts th tz : Int32) (tk ta te tp tst tsp : Nat → Int32) :
    ∃ k a e p s t : Nat → Int32, f_X7_startTrial tb ts th tz basins spring hour z kind tk above ta edge te pool tp store tst spot tsp = some (basins, spring, hour, z, k, a, e, p, s, t) ∧ CF f k a e p s t basins spring hour z :=
  ⟨_, _, _, _, _, _, rfl, CF_cpy hn _ _ _ _ _ _ hC⟩
theorem late_iff {h j : Nat} (hh : h ≤ 9999) (hj : j ≤ 1000) : nI h + nI j ≤ (9999 : Int32) ↔ ¬ 9999 < h + j := by
  rw [nI_add, show (9999 : Int32) = nI 9999 from rfl, nI_leI (by omega) (by decide)]
  omega
theorem late7 {h j : Nat} (hh : h ≤ 9999) (hj : j ≤ 1000) : f_X7_tooLate (nI j) (nI h) = some (kI (9999 < h + j)) := by
  unfold f_X7_tooLate
  by_cases q : 9999 < h + j
  · rw [br_f1 (fun c => (late_iff hh hj).mp c q), kI_t q]
  · rw [br_t1 ((late_iff hh hj).mpr q), kI_f q]
theorem late8 {h j : Nat} (hh : h ≤ 9999) (hj : j ≤ 1000) {d : Nat → Int32} (hd : d 1 = nI h) : f_X8_isLate (nI j) d = some (kI (9999 < h + j)) := by
  unfold f_X8_isLate
  rw [show d (1 : Int32).toNatClampNeg = nI h from hd]
  by_cases q : 9999 < h + j
  · rw [br_f1 (fun c => (late_iff hh hj).mp c q), kI_t q]
  · rw [br_t1 ((late_iff hh hj).mpr q), kI_f q]
theorem VF_it {f : Fo} (hV : VF f) {k : Nat} (hk : f.hr + k ≤ 9999) : VF (f.it k) := by
  have h := VG_it (VG_of hV) k
  obtain ⟨s1, s2, s3, s4, s5, s6, s7, s8⟩ := it_same f k
  refine ⟨h.1, h.2.1, h.2.2, by rw [s7]; exact hk, fun j hj => by rw [s1, s5]; exact hV.2.2.2.2 j hj⟩
theorem gain_e {f : Fo} {k b : Nat} (hn : f.n ≤ 10) (hb : b < f.n) {s p : Nat → Int32} (hs : s b = (f.it k).st b) (hp : p b = f.st b) : f_X7_gain (nI b) s p = some (nI (f.gt k b)) := by
  unfold f_X7_gain
  have v : vp_in (nI b) 10 := vp_in_nI (by omega) (by decide)
  rw [gd_t v, gd_t v, nI_clamp (by omega), hs, hp, it_st, Int32.add_comm, Int32.add_sub_cancel]
theorem L_hours (x1 : Int32) (cT_present_kind : Nat → Int32) (cT_present_above : Nat → Int32) (cT_present_edge : Nat → Int32) (cT_present_pool : Nat → Int32) (cT_present_store : Nat → Int32) (cT_present_spot : Nat → Int32) (vT_present_basins : Int32) (vT_present_spring : Int32) (vT_present_hour : Int32) (vT_present_z : Int32) (vT_pictured : Int32) (cT_picture_kind : Nat → Int32) (cT_picture_above : Nat → Int32) (cT_picture_edge : Nat → Int32) (cT_picture_pool : Nat → Int32) (cT_picture_store : Nat → Int32) (cT_picture_spot : Nat → Int32) (vT_picture_basins : Int32) (vT_picture_spring : Int32) (vT_picture_hour : Int32) (vT_picture_z : Int32) (cT_told : Nat → Int32) (cT_tape_bytes : Nat → Int32) (vT_tape_size : Int32) (vT_sheets_bits : Nat → Int32) (vT_sheets_size : Nat → Int32) (cT_sheets_numbers : Nat → Nat → Int32) (cM_d : Nat → Int32) (vM_isKept : Int32) (cM_kept : Nat → Int32) (cM_found : Nat → Int32) (cM_tape : Nat → Int32) (vM_taped : Int32) (cM_bitsOf : Nat → Int32) (cM_sizeOf : Nat → Int32) (cM_number : Nat → Int32) (vT_flow_kept : Int32) (vT_flow_leaked : Int32) (vT_flow_ranOff : Int32) (vT_flow_uneven : Int32) (vT_flow_keptInAll : Int32) (vT_flow_leakedInAll : Int32) (vT_flow_ranOffInAll : Int32) (cT_flow_width : Nat → Int32) (cT_flow_goesOn : Nat → Int32) (cT_flow_comes : Nat → Int32) (cT_flow_keeps : Nat → Int32) (cT_flow_holds : Nat → Int32) (vM_leaked : Int32) (vM_keptAll : Int32) (vM_offAll : Int32) (cM_came : Nat → Int32) (cM_got : Nat → Int32) (cM_held : Nat → Int32) (cM_off : Nat → Int32) (hI : Inv cT_present_kind cT_present_above cT_present_edge cT_present_pool cT_present_store cT_present_spot vT_present_basins vT_present_spring vT_present_hour vT_present_z vT_pictured cT_picture_kind cT_picture_above cT_picture_edge cT_picture_pool cT_picture_store cT_picture_spot vT_picture_basins vT_picture_spring vT_picture_hour vT_picture_z cT_told cT_tape_bytes vT_tape_size vT_sheets_bits vT_sheets_size cT_sheets_numbers cM_d vM_isKept cM_kept cM_found cM_tape vM_taped cM_bitsOf cM_sizeOf cM_number) : ∃ (u : Int32 × Int32 × Int32 × Int32 × Int32 × Int32 × Int32 × Int32 × Int32 × (Nat → Int32) × (Nat → Int32) × (Nat → Int32) × (Nat → Int32) × (Nat → Int32) × (Nat → Int32) × (Nat → Int32) × (Nat → Int32)) (v : Int32 × Int32 × Int32 × Int32 × (Nat → Int32) × (Nat → Int32) × (Nat → Int32) × (Nat → Int32) × (Nat → Int32) × (Nat → Int32)), f_X7_hours x1 vT_present_basins vT_present_spring vT_present_hour vT_flow_kept vT_flow_leaked vT_flow_ranOff vT_flow_uneven vT_flow_keptInAll vT_flow_leakedInAll vT_flow_ranOffInAll cT_flow_width cT_present_above cT_present_edge cT_flow_goesOn cT_flow_comes cT_present_kind cT_flow_keeps cT_present_pool cT_flow_holds cT_present_store cT_told = some u ∧ f_X8_hours x1 vM_leaked vM_keptAll vM_offAll cM_d cM_came cM_got cM_held cM_off cM_found = some v ∧ u.1 = v.1 ∧ Inv cT_present_kind cT_present_above cT_present_edge u.2.2.2.2.2.2.2.2.2.2.2.2.2.1 u.2.2.2.2.2.2.2.2.2.2.2.2.2.2.2.1 cT_present_spot vT_present_basins vT_present_spring u.2.1 vT_present_z vT_pictured cT_picture_kind cT_picture_above cT_picture_edge cT_picture_pool cT_picture_store cT_picture_spot vT_picture_basins vT_picture_spring vT_picture_hour vT_picture_z u.2.2.2.2.2.2.2.2.2.2.2.2.2.2.2.2 cT_tape_bytes vT_tape_size vT_sheets_bits vT_sheets_size cT_sheets_numbers v.2.2.2.2.1 vM_isKept cM_kept v.2.2.2.2.2.2.2.2.2 cM_tape vM_taped cM_bitsOf cM_sizeOf cM_number := by
  obtain ⟨⟨f, hV, hC, hM⟩, hI2, hT, hP, hS⟩ := hI
  have hF : RF cT_present_kind cT_present_above cT_present_edge cT_present_pool cT_present_store cT_present_spot vT_present_basins vT_present_spring vT_present_hour vT_present_z cM_d := ⟨f, hV, hC, hM⟩
  obtain rfl := hC.1
  obtain rfl := hC.2.1
  obtain rfl := hC.2.2.1
  have hh : f.hr ≤ 9999 := hV.2.2.2.1
  have h1 : f_X7_within x1 (1 : Int32) (100 : Int32) = some (kI (rg 1 100 x1)) := within_n (by decide) (by decide) x1
  have h2 : f_X8_in x1.toInt64 (1 : Int64) (100 : Int64) = some (kI (rg 1 100 x1)) := in_n (by decide) rfl rfl x1
  unfold f_X7_hours f_X8_hours
  rw [bd_t h1, bd_t h2, br_kI, br_kI]
  by_cases hw : rg 1 100 x1
  · rw [br_t1 hw, br_t1 hw]
    obtain ⟨k, hk1, hk, rfl⟩ := hw
    rw [bd_t (late7 hh (by omega)), bd_t (late8 hh (by omega) hM.2.1)]
    by_cases hl : 9999 < f.hr + k
    · rw [kI_t hl, br_f1 (by decide), br_f1 (by decide), bd_t (tell4 _), bd_t (finds4 _)]
      exact ⟨_, _, rfl, rfl, rfl, hF, hI2, RT_tell hT 4, hP, hS⟩
    · rw [kI_f hl, br_t1 rfl, br_t1 rfl]
      obtain ⟨vk', vl', vr', vu', w', g', c', k', p', h', s', hp, hpv⟩ := pass_e (VG_of hV) hC (k := k) (by omega) vT_flow_kept vT_flow_leaked vT_flow_ranOff vT_flow_uneven vT_flow_keptInAll vT_flow_leakedInAll vT_flow_ranOffInAll cT_flow_width cT_flow_goesOn cT_flow_comes cT_flow_keeps cT_flow_holds
      obtain ⟨wl', wk', wo', d', c2, g2, h2, o2, hg, hgM⟩ := goOn_e (VG_of hV) hM (k := k) (by omega) vM_leaked vM_keptAll vM_offAll cM_came cM_got cM_held cM_off
      rw [bd_t hp, bd_t hg]
      refine ⟨_, _, rfl, rfl, rfl, ⟨f.it k, VF_it hV (by omega), ?_, hgM⟩, hI2, hT, hP, hS⟩
      obtain ⟨s1, s2, s3, s4, s5, s6, s7, s8⟩ := it_same f k
      obtain ⟨q0, q1, q2, q3, q4, q5⟩ := hC
      refine ⟨congrArg nI s1.symm, congrArg nI s6.symm, congrArg nI s7.symm, q3.trans s8.symm, fun b hb => ?_, fun j hj => by rw [s5]; exact q5 j hj⟩
      rw [s1] at hb
      obtain ⟨r1, r2, r3, r4, r5⟩ := q4 b hb
      rw [s2, s3, s4]
      exact ⟨r1, r2, r3, (hpv b hb).1, (hpv b hb).2.1⟩
  · rw [br_f1 hw, br_f1 hw, bd_t (tell0 _), bd_t (finds0 _)]
    exact ⟨_, _, rfl, rfl, rfl, hF, hI2, RT_tell hT 0, hP, hS⟩
