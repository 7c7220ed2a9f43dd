/-! ===== cases ahead, when, weather, wear, judge ===== -/
theorem two_imp {α β : Type} {a : Option α} {b : Option β} (R : α → β → Prop) {S : α → β → Prop} (h : ∃ u v, a = some u ∧ b = some v ∧ R u v) (k : ∀ u v, R u v → S u v) : ∃ u v, a = some u ∧ b = some v ∧ S u v := by
  obtain ⟨u, v, h1, h2, h3⟩ := h
  exact ⟨u, v, h1, h2, k u v h3⟩
theorem lp_two4i {σ α τ β : Type} {f : (σ → Option α) → σ → Option α} {g : (τ → Option β) → τ → Option β} {R : α → β → Prop} (n : Nat) (I : Nat → σ → τ → Prop)
    (h : ∀ i s t, i ≤ n → I i s t → ∀ rc rd, (∃ a b, f rc s = some a ∧ g rd t = some b ∧ R a b) ∨ (i < n ∧ ∃ s' t', I (i + 1) s' t' ∧ f rc s = rc s' ∧ g rd t = rd t')) :
    ∀ (d i : Nat) (s : σ) (t : τ) (k : Nat), n - i ≤ d → i ≤ n → I i s t → d < k → ∃ a b, lp f k s = some a ∧ lp g k t = some b ∧ R a b := by
  intro d
  induction d with
  | zero =>
    intro i s t k hd hi hI hk
    obtain ⟨k', rfl⟩ : ∃ k', k = k' + 1 := ⟨k - 1, by omega⟩
    rcases h i s t hi hI (lp f k') (lp g k') with h1 | ⟨h1, -⟩
    · exact h1
    · omega
  | succ d ih =>
    intro i s t k hd hi hI hk
    obtain ⟨k', rfl⟩ : ∃ k', k = k' + 1 := ⟨k - 1, by omega⟩
    rcases h i s t hi hI (lp f k') (lp g k') with h1 | ⟨h1, s', t', hI', hs, ht⟩
    · exact h1
    · obtain ⟨a, b, e1, e2, e3⟩ := ih (i + 1) s' t' k' (by omega) h1 hI' (by omega)
      exact ⟨a, b, hs.trans e1, ht.trans e2, e3⟩
/-- two loops side by side -/
theorem lp_two4 {σ α τ β : Type} {f : (σ → Option α) → σ → Option α} {g : (τ → Option β) → τ → Option β} {s : σ} {t : τ} {R : α → β → Prop} (n : Nat) (I : Nat → σ → τ → Prop) (h0 : I 0 s t) (hn : n < FU)
    (h : ∀ i s t, i ≤ n → I i s t → ∀ rc rd, (∃ a b, f rc s = some a ∧ g rd t = some b ∧ R a b) ∨ (i < n ∧ ∃ s' t', I (i + 1) s' t' ∧ f rc s = rc s' ∧ g rd t = rd t')) : ∃ a b, lp f FU s = some a ∧ lp g FU t = some b ∧ R a b :=
  lp_two4i n I h n 0 s t FU (by omega) (Nat.zero_le n) h0 hn
theorem pass_c {f : Fo} (hV : VG f) {kind above edge pool store spot : Nat → Int32} {basins spring hour z : Int32} (hC : CF f kind above edge pool store spot basins spring hour z) {k : Nat} (hk : k ≤ 1000) (vk vl vr vu va vb vc : Int32) (W g c kk h : Nat → Int32) :
    ∃ (vk' vl' vr' vu' hr' : Int32) (w' g' c' k' p' h' s' : Nat → Int32), f_X1_pass (nI k) vk vl vr vu va vb vc basins spring hour W above edge g c kind kk pool h store = some (vk', vl', vr', vu', nI (f.kpT k), nI (f.lkT k), nI (f.roT k), hr', w', g', c', k', p', h', s') ∧
      CF (f.it k) kind above edge p' s' spot basins spring hr' z ∧ ∀ b, b < f.n → ∀ j, k = j + 1 → k' b = nI ((f.it j).kp b) := by
  obtain ⟨vk', vl', vr', vu', w', g', c', k', p', h', s', hp, hpv⟩ := pass_e2 hV hC hk vk vl vr vu va vb vc W g c kk h
  refine ⟨vk', vl', vr', vu', _, w', g', c', k', p', h', s', hp, ?_, fun b hb => (hpv b hb).2.2⟩
  obtain ⟨s1, s2, s3, s4, s5, s6, s7, s8⟩ := it_same f k
  obtain ⟨q0, q1, q2, q3, q4, q5⟩ := hC
  refine ⟨q0.trans (congrArg nI s1.symm), q1.trans (congrArg nI s6.symm), congrArg nI s7.symm, q3.trans s8.symm, fun b hb => ?_, fun j hj => by rw [s5]; exact q5 j hj⟩
  rw [s1] at hb
  obtain ⟨r1, r2, r3, r4, r5⟩ := q4 b hb
  rw [s2, s3, s4]
  exact ⟨r1, r2, r3, (hpv b hb).1, (hpv b hb).2.1⟩
theorem known_t {n : Nat} (hn : n ≤ 10) {x : Int32} {α : Type} {A B : Option α} (h : rg 0 (2 + n) x) : br (rg 0 2 x) B (br (x ≤ 2) A (bd (f_X7_isBasin (x - 3) (nI n)) fun u => br (u = 0) A B)) = B := by
  obtain ⟨j, -, hj, rfl⟩ := h
  by_cases h2 : j ≤ 2
  · rw [br_t1 ⟨j, by omega, h2, rfl⟩]
  · have e : nI j - (3 : Int32) = nI (j - 3) := pk_sub (b := 3) (by omega)
    rw [br_f1 (fun q => by obtain ⟨i, -, hi, e⟩ := q; have := (nI_eq (by omega) (by omega)).mp e; omega), br_f1 (show ¬ nI j ≤ (2 : Int32) from nI_ge (a := 2) (by omega) (by omega)), bd_t (isB7 (by omega) _), e, kI_t ⟨j - 3, by omega, rfl⟩, br_f1 (by decide)]
theorem known_f {n : Nat} (hn : n ≤ 10) {x : Int32} {α : Type} {A B : Option α} (h : ¬ rg 0 (2 + n) x) : br (rg 0 2 x) B (br (x ≤ 2) A (bd (f_X7_isBasin (x - 3) (nI n)) fun u => br (u = 0) A B)) = A := by
  rw [br_f1 (fun q => h (by obtain ⟨j, h1, h2, e⟩ := q; exact ⟨j, h1, by omega, e⟩))]
  by_cases h2 : x ≤ 2
  · rw [br_t1 h2]
  · rw [br_f1 h2, bd_t (isB7 (by omega) _), kI_f, br_t1 rfl]
    rintro ⟨j, hj, e⟩
    exact h ⟨j + 3, by omega, by omega, by rw [← nI_add, ← e]; show x = x - 3 + 3; rw [Int32.sub_add_cancel]⟩
theorem L_ahead (x1 x2 : Int32) (cT_present_kind : Nat → Int32) (cT_present_above : Nat → Int32) (cT_present_edge : Nat → Int32) (cT_present_pool : Nat → Int32) (cT_present_store : Nat → Int32) (cT_present_spot : Nat → Int32) (vT_present_basins : Int32) (vT_present_spring : Int32) (vT_present_hour : Int32) (vT_present_z : Int32) (vT_pictured : Int32) (cT_picture_kind : Nat → Int32) (cT_picture_above : Nat → Int32) (cT_picture_edge : Nat → Int32) (cT_picture_pool : Nat → Int32) (cT_picture_store : Nat → Int32) (cT_picture_spot : Nat → Int32) (vT_picture_basins : Int32) (vT_picture_spring : Int32) (vT_picture_hour : Int32) (vT_picture_z : Int32) (cT_told : Nat → Int32) (cT_tape_bytes : Nat → Int32) (vT_tape_size : Int32) (vT_sheets_bits : Nat → Int32) (vT_sheets_size : Nat → Int32) (cT_sheets_numbers : Nat → Nat → Int32) (cM_d : Nat → Int32) (vM_isKept : Int32) (cM_kept : Nat → Int32) (cM_found : Nat → Int32) (cM_tape : Nat → Int32) (vM_taped : Int32) (cM_bitsOf : Nat → Int32) (cM_sizeOf : Nat → Int32) (cM_number : Nat → Int32) (vT_trial_basins : Int32) (vT_trial_spring : Int32) (vT_trial_hour : Int32) (vT_trial_z : Int32) (cT_trial_kind : Nat → Int32) (cT_trial_above : Nat → Int32) (cT_trial_edge : Nat → Int32) (cT_trial_pool : Nat → Int32) (cT_trial_store : Nat → Int32) (cT_trial_spot : Nat → Int32) (vT_flow_kept : Int32) (vT_flow_leaked : Int32) (vT_flow_ranOff : Int32) (vT_flow_uneven : Int32) (vT_flow_keptInAll : Int32) (vT_flow_leakedInAll : Int32) (vT_flow_ranOffInAll : Int32) (cT_flow_width : Nat → Int32) (cT_flow_goesOn : Nat → Int32) (cT_flow_comes : Nat → Int32) (cT_flow_keeps : Nat → Int32) (cT_flow_holds : Nat → Int32) (vM_leaked : Int32) (vM_keptAll : Int32) (vM_offAll : Int32) (vM_triedOff : Int32) (vM_triedLeaked : Int32) (vM_triedKept : Int32) (cM_f : Nat → Int32) (cM_came : Nat → Int32) (cM_got : Nat → Int32) (cM_held : Nat → Int32) (cM_off : Nat → Int32) (cM_gets : Nat → Int32) (hI : Inv cT_present_kind cT_present_above cT_present_edge cT_present_pool cT_present_store cT_present_spot vT_present_basins vT_present_spring vT_present_hour vT_present_z vT_pictured cT_picture_kind cT_picture_above cT_picture_edge cT_picture_pool cT_picture_store cT_picture_spot vT_picture_basins vT_picture_spring vT_picture_hour vT_picture_z cT_told cT_tape_bytes vT_tape_size vT_sheets_bits vT_sheets_size cT_sheets_numbers cM_d vM_isKept cM_kept cM_found cM_tape vM_taped cM_bitsOf cM_sizeOf cM_number) : ∃ (u : Int32 × (Nat → Int32) × Int32 × Int32 × Int32 × Int32 × (Nat → Int32) × (Nat → Int32) × (Nat → Int32) × (Nat → Int32) × (Nat → Int32) × (Nat → Int32) × Int32 × Int32 × Int32 × Int32 × Int32 × Int32 × Int32 × (Nat → Int32) × (Nat → Int32) × (Nat → Int32) × (Nat → Int32) × (Nat → Int32)) (v : Int32 × Int32 × Int32 × Int32 × Int32 × Int32 × Int32 × (Nat → Int32) × (Nat → Int32) × (Nat → Int32) × (Nat → Int32) × (Nat → Int32) × (Nat → Int32) × (Nat → Int32) × (Nat → Int32)), f_X7_ahead x1 x2 vT_present_basins vT_present_spring vT_present_hour vT_present_z cT_told vT_trial_basins vT_trial_spring vT_trial_hour vT_trial_z cT_present_kind cT_trial_kind cT_present_above cT_trial_above cT_present_edge cT_trial_edge cT_present_pool cT_trial_pool cT_present_store cT_trial_store cT_present_spot cT_trial_spot vT_flow_kept vT_flow_leaked vT_flow_ranOff vT_flow_uneven vT_flow_keptInAll vT_flow_leakedInAll vT_flow_ranOffInAll cT_flow_width cT_flow_goesOn cT_flow_comes cT_flow_keeps cT_flow_holds = some u ∧ f_X8_ahead x1 x2 vM_leaked vM_keptAll vM_offAll vM_triedOff vM_triedLeaked vM_triedKept cM_found cM_d cM_f cM_came cM_got cM_held cM_off cM_gets = some v ∧ u.1 = v.1 ∧ Inv cT_present_kind cT_present_above cT_present_edge cT_present_pool cT_present_store cT_present_spot vT_present_basins vT_present_spring vT_present_hour vT_present_z vT_pictured cT_picture_kind cT_picture_above cT_picture_edge cT_picture_pool cT_picture_store cT_picture_spot vT_picture_basins vT_picture_spring vT_picture_hour vT_picture_z u.2.1 cT_tape_bytes vT_tape_size vT_sheets_bits vT_sheets_size cT_sheets_numbers v.2.2.2.2.2.2.2.2.1 vM_isKept cM_kept v.2.2.2.2.2.2.2.1 cM_tape vM_taped cM_bitsOf cM_sizeOf cM_number := by
  obtain ⟨⟨f, hV, hC, hM⟩, hI2, hT, hP, hS⟩ := hI
  have hF : RF cT_present_kind cT_present_above cT_present_edge cT_present_pool cT_present_store cT_present_spot vT_present_basins vT_present_spring vT_present_hour vT_present_z cM_d := ⟨f, hV, hC, hM⟩
  have hn : f.n ≤ 10 := hV.1
  have hG : VG f := VG_of hV
  obtain rfl := hC.1
  obtain rfl := hC.2.1
  obtain rfl := hC.2.2.1
  have hh : f.hr ≤ 9999 := hV.2.2.2.1
  have h1 : f_X7_within x2 (0 : Int32) (2 : Int32) = some (kI (rg 0 2 x2)) := within_n (by decide) (by decide) x2
  have h0 : f_X7_within x1 (0 : Int32) (100 : Int32) = some (kI (rg 0 100 x1)) := within_n (by decide) (by decide) x1
  have h2 : f_X8_in x1.toInt64 (0 : Int64) (100 : Int64) = some (kI (rg 0 100 x1)) := in_n (by decide) rfl rfl x1
  have h3 : f_X8_in x2.toInt64 (0 : Int64) (((2 : Int32) + cM_d (0 : Int32).toNatClampNeg).toInt64) = some (kI (rg 0 (2 + f.n) x2)) := by
    rw [show cM_d (0 : Int32).toNatClampNeg = nI f.n from hM.1]
    exact in_n (by omega) rfl (by rw [show (2 : Int32) = nI 2 from rfl, nI_add, Int32.toInt_toInt64, nI_toInt (by omega)]) x2
  unfold f_X7_ahead f_X8_ahead
  rw [bd_t h1, bd_t h2, br_kI, br_kI]
  by_cases hK : rg 0 (2 + f.n) x2
  · rw [known_t hn hK]
    unfold f_X7_ahead_J29
    rw [br_f1 (show ¬ (1 : Int32) = 0 by decide), bd_t h0, br_kI]
    by_cases hw : rg 0 100 x1
    · rw [br_t1 hw, br_t1 hw, bd_t h3, br_kI, br_t1 hK]
      obtain ⟨k, -, hk, rfl⟩ := hw
      rw [bd_t (late7 hh (by omega)), bd_t (late8 hh (by omega) hM.2.1)]
      by_cases hl : 9999 < f.hr + k
      · rw [kI_t hl, br_f1 (by decide), br_f1 (by decide), bd_t (tell4 _), bd_t (finds4 _)]
        exact ⟨_, _, rfl, rfl, rfl, hF, hI2, RT_tell hT 4, hP, hS⟩
      · rw [kI_f hl, br_t1 rfl, br_t1 rfl]
        obtain ⟨tk', ta', te', tp', ts', tt', hSt, hCt⟩ := start_e hn hC vT_trial_basins vT_trial_spring vT_trial_hour vT_trial_z cT_trial_kind cT_trial_above cT_trial_edge cT_trial_pool cT_trial_store cT_trial_spot
        obtain ⟨vk', vl', vr', vu', w', g', c', k', p', h', s', hp, hpv⟩ := pass_e2 hG hCt (k := k) (by omega) vT_flow_kept vT_flow_leaked vT_flow_ranOff vT_flow_uneven vT_flow_keptInAll vT_flow_leakedInAll vT_flow_ranOffInAll cT_flow_width cT_flow_goesOn cT_flow_comes cT_flow_keeps cT_flow_holds
        obtain ⟨wl, wk, wo, d', F', c2, g2, h2, o2, gs, hT8, hd, hg⟩ := tries_e hG hM (k := k) (by omega) vM_leaked vM_keptAll vM_offAll vM_triedOff vM_triedLeaked vM_triedKept cM_f cM_came cM_got cM_held cM_off cM_gets
        have hF2 : RF cT_present_kind cT_present_above cT_present_edge cT_present_pool cT_present_store cT_present_spot (nI f.n) (nI f.sg) (nI f.hr) vT_present_z d' := ⟨f, hV, hC, MF_cong hn hM hd⟩
        rw [bd_t hSt]
        dsimp only
        rw [bd_t hp, bd_t hT8]
        dsimp only
        obtain ⟨j, -, hj, rfl⟩ := hK
        by_cases j0 : j = 0
        · subst j0
          rw [br_t1 (show nI 0 = 0 from rfl), br_t1 (show nI 0 = 0 from rfl)]
          exact ⟨_, _, rfl, rfl, rfl, hF2, hI2, hT, hP, hS⟩
        · rw [br_f1 (nI_ne 0 0 j0), br_f1 (nI_ne 0 0 j0)]
          by_cases j1 : j = 1
          · subst j1
            rw [br_t1 (show nI 1 = 1 from rfl), br_t1 (show nI 1 = 1 from rfl)]
            exact ⟨_, _, rfl, rfl, rfl, hF2, hI2, hT, hP, hS⟩
          · rw [br_f1 (nI_ne 1 1 j1), br_f1 (nI_ne 1 1 j1)]
            by_cases j2 : j = 2
            · subst j2
              rw [br_t1 (show nI 2 = 2 from rfl), br_t1 (show nI 2 = 2 from rfl)]
              exact ⟨_, _, rfl, rfl, rfl, hF2, hI2, hT, hP, hS⟩
            · have e : nI j - (3 : Int32) = nI (j - 3) := pk_sub (b := 3) (by omega)
              have hb : j - 3 < f.n := by omega
              rw [br_f1 (nI_ne 2 2 j2), br_f1 (nI_ne 2 2 j2), e, bd_t (gain_e (f := f) (k := k) hn hb (hpv _ hb).2.1 (hC.2.2.2.2.1 _ hb).2.2.2.2), gd_t (vp_in_nI (by omega) (by decide)), nI_clamp (by omega), hg _ hb]
              exact ⟨_, _, rfl, rfl, rfl, hF2, hI2, hT, hP, hS⟩
    · rw [br_f1 hw, br_f1 hw, bd_t (tell0 _), bd_t (finds0 _)]
      exact ⟨_, _, rfl, rfl, rfl, hF, hI2, RT_tell hT 0, hP, hS⟩
  · rw [known_f hn hK]
    unfold f_X7_ahead_J29
    rw [br_t1 rfl, bd_t (tell0 _)]
    by_cases hw : rg 0 100 x1
    · rw [br_t1 hw, bd_t h3, br_kI, br_f1 hK, bd_t (finds0 _)]
      exact ⟨_, _, rfl, rfl, rfl, hF, hI2, RT_tell hT 0, hP, hS⟩
    · rw [br_f1 hw, bd_t (finds0 _)]
      exact ⟨_, _, rfl, rfl, rfl, hF, hI2, RT_tell hT 0, hP, hS⟩
theorem L_when (x1 x2 : Int32) (cT_present_kind : Nat → Int32) (cT_present_above : Nat → Int32) (cT_present_edge : Nat → Int32) (cT_present_pool : Nat → Int32) (cT_present_store : Nat → Int32) (cT_present_spot : Nat → Int32) (vT_present_basins : Int32) (vT_present_spring : Int32) (vT_present_hour : Int32) (vT_present_z : Int32) (vT_pictured : Int32) (cT_picture_kind : Nat → Int32) (cT_picture_above : Nat → Int32) (cT_picture_edge : Nat → Int32) (cT_picture_pool : Nat → Int32) (cT_picture_store : Nat → Int32) (cT_picture_spot : Nat → Int32) (vT_picture_basins : Int32) (vT_picture_spring : Int32) (vT_picture_hour : Int32) (vT_picture_z : Int32) (cT_told : Nat → Int32) (cT_tape_bytes : Nat → Int32) (vT_tape_size : Int32) (vT_sheets_bits : Nat → Int32) (vT_sheets_size : Nat → Int32) (cT_sheets_numbers : Nat → Nat → Int32) (cM_d : Nat → Int32) (vM_isKept : Int32) (cM_kept : Nat → Int32) (cM_found : Nat → Int32) (cM_tape : Nat → Int32) (vM_taped : Int32) (cM_bitsOf : Nat → Int32) (cM_sizeOf : Nat → Int32) (cM_number : Nat → Int32) (vT_trial_basins : Int32) (vT_trial_spring : Int32) (vT_trial_hour : Int32) (vT_trial_z : Int32) (cT_trial_kind : Nat → Int32) (cT_trial_above : Nat → Int32) (cT_trial_edge : Nat → Int32) (cT_trial_pool : Nat → Int32) (cT_trial_store : Nat → Int32) (cT_trial_spot : Nat → Int32) (vT_flow_kept : Int32) (vT_flow_leaked : Int32) (vT_flow_ranOff : Int32) (vT_flow_uneven : Int32) (vT_flow_keptInAll : Int32) (vT_flow_leakedInAll : Int32) (vT_flow_ranOffInAll : Int32) (cT_flow_width : Nat → Int32) (cT_flow_goesOn : Nat → Int32) (cT_flow_comes : Nat → Int32) (cT_flow_keeps : Nat → Int32) (cT_flow_holds : Nat → Int32) (vM_leaked : Int32) (vM_keptAll : Int32) (vM_offAll : Int32) (cM_f : Nat → Int32) (cM_came : Nat → Int32) (cM_got : Nat → Int32) (cM_held : Nat → Int32) (cM_off : Nat → Int32) (hI : Inv cT_present_kind cT_present_above cT_present_edge cT_present_pool cT_present_store cT_present_spot vT_present_basins vT_present_spring vT_present_hour vT_present_z vT_pictured cT_picture_kind cT_picture_above cT_picture_edge cT_picture_pool cT_picture_store cT_picture_spot vT_picture_basins vT_picture_spring vT_picture_hour vT_picture_z cT_told cT_tape_bytes vT_tape_size vT_sheets_bits vT_sheets_size cT_sheets_numbers cM_d vM_isKept cM_kept cM_found cM_tape vM_taped cM_bitsOf cM_sizeOf cM_number) : ∃ (u : Int32 × (Nat → Int32) × Int32 × Int32 × Int32 × Int32 × (Nat → Int32) × (Nat → Int32) × (Nat → Int32) × (Nat → Int32) × (Nat → Int32) × (Nat → Int32) × Int32 × Int32 × Int32 × Int32 × Int32 × Int32 × Int32 × (Nat → Int32) × (Nat → Int32) × (Nat → Int32) × (Nat → Int32) × (Nat → Int32)) (v : Int32 × Int32 × Int32 × Int32 × (Nat → Int32) × (Nat → Int32) × (Nat → Int32) × (Nat → Int32) × (Nat → Int32) × (Nat → Int32) × (Nat → Int32)), f_X7_when x1 x2 vT_present_basins vT_present_spring vT_present_hour vT_present_z cT_told vT_trial_basins vT_trial_spring vT_trial_hour vT_trial_z cT_present_kind cT_trial_kind cT_present_above cT_trial_above cT_present_edge cT_trial_edge cT_present_pool cT_trial_pool cT_present_store cT_trial_store cT_present_spot cT_trial_spot vT_flow_kept vT_flow_leaked vT_flow_ranOff vT_flow_uneven vT_flow_keptInAll vT_flow_leakedInAll vT_flow_ranOffInAll cT_flow_width cT_flow_goesOn cT_flow_comes cT_flow_keeps cT_flow_holds = some u ∧ f_X8_when x1 x2 vM_leaked vM_keptAll vM_offAll cM_d cM_found cM_f cM_came cM_got cM_held cM_off = some v ∧ u.1 = v.1 ∧ Inv cT_present_kind cT_present_above cT_present_edge cT_present_pool cT_present_store cT_present_spot vT_present_basins vT_present_spring vT_present_hour vT_present_z vT_pictured cT_picture_kind cT_picture_above cT_picture_edge cT_picture_pool cT_picture_store cT_picture_spot vT_picture_basins vT_picture_spring vT_picture_hour vT_picture_z u.2.1 cT_tape_bytes vT_tape_size vT_sheets_bits vT_sheets_size cT_sheets_numbers v.2.2.2.2.1 vM_isKept cM_kept v.2.2.2.2.2.1 cM_tape vM_taped cM_bitsOf cM_sizeOf cM_number := by
  obtain ⟨⟨f, hV, hC, hM⟩, hI2, hT, hP, hS⟩ := hI
  have hF : RF cT_present_kind cT_present_above cT_present_edge cT_present_pool cT_present_store cT_present_spot vT_present_basins vT_present_spring vT_present_hour vT_present_z cM_d := ⟨f, hV, hC, hM⟩
  have hn : f.n ≤ 10 := hV.1
  have hG : VG f := VG_of hV
  obtain rfl := hC.1
  obtain rfl := hC.2.1
  obtain rfl := hC.2.2.1
  have hh : f.hr ≤ 9999 := hV.2.2.2.1
  have h1 : f_X7_within x2 (1 : Int32) (99999 : Int32) = some (kI (rg 1 99999 x2)) := within_n (by decide) (by decide) x2
  have h2 : f_X8_in x2.toInt64 (1 : Int64) (99999 : Int64) = some (kI (rg 1 99999 x2)) := in_n (by decide) rfl rfl x2
  unfold f_X7_when f_X8_when
  rw [bd_t (isB7 (by omega) x1), bd_t (isB8 (by omega) hM.1 x1), br_kI, br_kI]
  by_cases hb : isb f.n x1
  · rw [br_t1 hb, br_t1 hb, bd_t h1, bd_t h2, br_kI, br_kI]
    obtain ⟨b, hb, rfl⟩ := hb
    by_cases hw : rg 1 99999 x2
    · rw [br_t1 hw, br_t1 hw, bd_t (show f_X7_tooLate (100 : Int32) (nI f.hr) = _ from late7 (j := 100) hh (by omega)), bd_t (show f_X8_isLate (100 : Int32) cM_d = _ from late8 (j := 100) hh (by omega) hM.2.1)]
      by_cases hl : 9999 < f.hr + 100
      · rw [kI_t hl, br_f1 (by decide), br_f1 (by decide), bd_t (tell4 _), bd_t (finds4 _)]
        exact ⟨_, _, rfl, rfl, rfl, hF, hI2, RT_tell hT 4, hP, hS⟩
      · obtain ⟨tk', ta', te', tp', ts', tt', hSt, hCt⟩ := start_e hn hC vT_trial_basins vT_trial_spring vT_trial_hour vT_trial_z cT_trial_kind cT_trial_above cT_trial_edge cT_trial_pool cT_trial_store cT_trial_spot
        obtain ⟨F1, hF1, hF2⟩ := copies_e cM_d cM_f
        rw [kI_f hl, br_t1 rfl, br_t1 rfl, bd_t hSt, bd_t hF1]
        dsimp only
        refine two_imp (fun u v => u.1 = v.1 ∧ RT u.2.1 v.2.2.2.2.2.1 ∧ ∀ i, i < 64 → v.2.2.2.2.1 i = cM_d i) ?_ (fun u v e => ⟨e.1, ⟨f, hV, hC, MF_cong hn hM e.2.2⟩, hI2, e.2.1, hP, hS⟩)
        unfold f_X7_when_L47 f_X8_when_L54
        refine lp_two4 101 (fun i s t => s.1 = nI i ∧ s.2.1 = cT_told ∧ CF (f.it i) s.2.2.2.2.2.2.1 s.2.2.2.2.2.2.2.1 s.2.2.2.2.2.2.2.2.1 s.2.2.2.2.2.2.2.2.2.1 s.2.2.2.2.2.2.2.2.2.2.1 s.2.2.2.2.2.2.2.2.2.2.2.1 s.2.2.1 s.2.2.2.1 s.2.2.2.2.1 s.2.2.2.2.2.1 ∧
          t.1 = nI i ∧ MF (f.it i) t.2.2.2.2.1 ∧ t.2.2.2.2.2.1 = cM_found ∧ t.2.2.2.2.2.2.1 = F1) ⟨rfl, rfl, hCt, rfl, hM, rfl, rfl⟩ (FU_gt (by decide)) ?_
        rintro i ⟨y, tld, tb, ts, th, tz, tk, ta, te, tp, tst, tsp, v1, v2, v3, v4, v5, v6, v7, w1, w2, w3, w4, w5⟩ ⟨z, vl, vk, vo, d1, fo, ff, c1, g1, h1, o1⟩ hi ⟨a1, a2, a3, b1, b2, b3, b4⟩ rc rd
        dsimp only at a1 a2 a3 b1 b2 b3 b4 ⊢
        subst a1 a2 b1 b3 b4
        have hb' : b < (f.it i).n := by rw [(it_same f i).1]; exact hb
        have hn' : (f.it i).n ≤ 10 := by rw [(it_same f i).1]; exact hn
        have vb : vp_in (nI b) 10 := vp_in_nI (by omega) (by decide)
        obtain ⟨d2, hd1, hd2⟩ := copies_e ff d1
        have hdd : ∀ j, j < 64 → d2 j = cM_d j := fun j hj => (hd2 j hj).trans (hF2 j hj)
        unfold f_X7_when_L47_b f_X8_when_L54_b f_X8_when_J80
        by_cases hx : i = 101
        · left
          subst hx
          rw [br_t1 (by decide), bd_t (tell3 _), br_t1 (by decide), bd_t hd1, br_f1 (by decide), bd_t (finds3 _)]
          exact ⟨_, _, rfl, rfl, rfl, RT_tell hT 3, hdd⟩
        · have hst := (a3.2.2.2.2.1 b hb').2.2.2.2
          have h100 : ¬ (100 : Int32) < nI i := nI_nlt (b := i) (a := 100) (by omega) (by decide)
          rw [br_f1 h100, gd_t vb, nI_clamp (by omega), hst, br_f1 h100, bd_t (its_k b2 hn' hb').2.2.2.2]
          by_cases hq : x2 ≤ (f.it i).st b
          · left
            rw [br_f1 (Int32.not_lt.mpr hq), br_t1 hq, bd_t hd1, br_t1 (Int32.not_lt.mp h100)]
            exact ⟨_, _, rfl, rfl, rfl, hT, hdd⟩
          · right
            refine ⟨by omega, ?_⟩
            obtain ⟨vk', vl', vr', vu', hr', w', g', c', k', p', h', s', hp, hpc, -⟩ := pass_c (VG_it hG i) a3 (k := 1) (by decide) v1 v2 v3 v4 v5 v6 v7 w1 w2 w3 w4 w5
            obtain ⟨d', c, g, h, o, hH, hM', -⟩ := hour_e (VG_it hG i) b2 vl vk vo c1 g1 h1 o1
            rw [br_t1 (Int32.not_le.mp hq), bd_t (show f_X1_pass (1 : Int32) _ _ _ _ _ _ _ _ _ _ _ _ _ _ _ _ _ _ _ _ = _ from hp), br_f1 hq, bd_t hH]
            refine ⟨_, _, ?_, rfl, rfl⟩
            exact ⟨nI_1 i, rfl, hpc, nI_1 i, hM', rfl, rfl⟩
    · rw [br_f1 hw, br_f1 hw, bd_t (tell0 _), bd_t (finds0 _)]
      exact ⟨_, _, rfl, rfl, rfl, hF, hI2, RT_tell hT 0, hP, hS⟩
  · rw [br_f1 hb, br_f1 hb, bd_t (tell0 _), bd_t (finds0 _)]
    exact ⟨_, _, rfl, rfl, rfl, hF, hI2, RT_tell hT 0, hP, hS⟩
def Fo.dz (f : Fo) : Int32 := f.z * 1103515245 + 12345
def Fo.dm (f : Fo) : Nat := f.dz.toBitVec.toNat / 2 ^ 8
theorem drw (x : Int32) : (x.toUInt32 >>> ((8 : Int32).toUInt32 &&& Int32.toUInt32 31)).toInt32 = nI (x.toBitVec.toNat / 2 ^ 8) := by
  have h := pk_ushr x 8 8 (by decide)
  have h2 : x.toBitVec.toNat / 2 ^ 8 < 2 ^ 32 := Nat.lt_of_le_of_lt (Nat.div_le_self _ _) x.toBitVec.isLt
  apply Int32.toBitVec_inj.mp
  apply BitVec.eq_of_toNat_eq
  rw [h, pk_tn h2]
theorem dm_lt (f : Fo) : f.dm < 2 ^ 31 := by
  have := f.dz.toBitVec.isLt
  unfold Fo.dm
  omega
theorem draw7 {f : Fo} {z : Int32} (h : z = f.z) : f_X2_draw z = some (nI f.dm, f.dz) := by
  subst h
  unfold f_X2_draw
  rw [drw]
  rfl
theorem draw8 {f : Fo} {d : Nat → Int32} (hM : MF f d) : f_X8_drawn d = some (nI f.dm, upd d 2 f.dz) := by
  unfold f_X8_drawn
  rw [drw, show d (2 : Int32).toNatClampNeg = f.z from hM.2.2.1, show (2 : Int32).toNatClampNeg = 2 from rfl, pk_us]
  rfl
theorem CF_Z {f : Fo} {kind above edge pool store spot : Nat → Int32} {basins spring hour z : Int32} (h : CF f kind above edge pool store spot basins spring hour z) (v : Int32) : CF (f.setZ v) kind above edge pool store spot basins spring hour v := ⟨h.1, h.2.1, h.2.2.1, rfl, h.2.2.2.2⟩
theorem CF_Sg {f : Fo} {kind above edge pool store spot : Nat → Int32} {basins spring hour z : Int32} (h : CF f kind above edge pool store spot basins spring hour z) (v : Nat) : CF (f.setSg v) kind above edge pool store spot basins (nI v) hour z := ⟨h.1, rfl, h.2.2.1, h.2.2.2.1, h.2.2.2.2⟩
theorem VF_Sg {f : Fo} (h : VF f) {v : Nat} (hv : v ≤ 99999) : VF (f.setSg v) := ⟨h.1, h.2.1, hv, h.2.2.2⟩
theorem VF_Z {f : Fo} (h : VF f) (v : Int32) : VF (f.setZ v) := h
theorem draw_two (g : Fo) : ∃ (m : Nat) (z' : Int32), m < 2 ^ 31 ∧ (∀ z, z = g.z → f_X2_draw z = some (nI m, z')) ∧ ∀ d, MF g d → f_X8_drawn d = some (nI m, upd d 2 z') :=
  ⟨g.dm, g.dz, dm_lt g, fun z h => draw7 h, fun d h => draw8 h⟩
theorem L_weather (x1 : Int32) (cT_present_kind : Nat → Int32) (cT_present_above : Nat → Int32) (cT_present_edge : Nat → Int32) (cT_present_pool : Nat → Int32) (cT_present_store : Nat → Int32) (cT_present_spot : Nat → Int32) (vT_present_basins : Int32) (vT_present_spring : Int32) (vT_present_hour : Int32) (vT_present_z : Int32) (vT_pictured : Int32) (cT_picture_kind : Nat → Int32) (cT_picture_above : Nat → Int32) (cT_picture_edge : Nat → Int32) (cT_picture_pool : Nat → Int32) (cT_picture_store : Nat → Int32) (cT_picture_spot : Nat → Int32) (vT_picture_basins : Int32) (vT_picture_spring : Int32) (vT_picture_hour : Int32) (vT_picture_z : Int32) (cT_told : Nat → Int32) (cT_tape_bytes : Nat → Int32) (vT_tape_size : Int32) (vT_sheets_bits : Nat → Int32) (vT_sheets_size : Nat → Int32) (cT_sheets_numbers : Nat → Nat → Int32) (cM_d : Nat → Int32) (vM_isKept : Int32) (cM_kept : Nat → Int32) (cM_found : Nat → Int32) (cM_tape : Nat → Int32) (vM_taped : Int32) (cM_bitsOf : Nat → Int32) (cM_sizeOf : Nat → Int32) (cM_number : Nat → Int32) (vT_flow_kept : Int32) (vT_flow_leaked : Int32) (vT_flow_ranOff : Int32) (vT_flow_uneven : Int32) (vT_flow_keptInAll : Int32) (vT_flow_leakedInAll : Int32) (vT_flow_ranOffInAll : Int32) (cT_flow_width : Nat → Int32) (cT_flow_goesOn : Nat → Int32) (cT_flow_comes : Nat → Int32) (cT_flow_keeps : Nat → Int32) (cT_flow_holds : Nat → Int32) (vM_leaked : Int32) (vM_keptAll : Int32) (vM_offAll : Int32) (cM_came : Nat → Int32) (cM_got : Nat → Int32) (cM_held : Nat → Int32) (cM_off : Nat → Int32) (hI : Inv cT_present_kind cT_present_above cT_present_edge cT_present_pool cT_present_store cT_present_spot vT_present_basins vT_present_spring vT_present_hour vT_present_z vT_pictured cT_picture_kind cT_picture_above cT_picture_edge cT_picture_pool cT_picture_store cT_picture_spot vT_picture_basins vT_picture_spring vT_picture_hour vT_picture_z cT_told cT_tape_bytes vT_tape_size vT_sheets_bits vT_sheets_size cT_sheets_numbers cM_d vM_isKept cM_kept cM_found cM_tape vM_taped cM_bitsOf cM_sizeOf cM_number) : ∃ (u : Int32 × Int32 × Int32 × Int32 × Int32 × Int32 × Int32 × Int32 × Int32 × Int32 × Int32 × (Nat → Int32) × (Nat → Int32) × (Nat → Int32) × (Nat → Int32) × (Nat → Int32) × (Nat → Int32) × (Nat → Int32) × (Nat → Int32)) (v : Int32 × Int32 × Int32 × Int32 × (Nat → Int32) × (Nat → Int32) × (Nat → Int32) × (Nat → Int32) × (Nat → Int32) × (Nat → Int32)), f_X7_weather x1 vT_present_basins vT_present_spring vT_present_hour vT_present_z vT_flow_kept vT_flow_leaked vT_flow_ranOff vT_flow_uneven vT_flow_keptInAll vT_flow_leakedInAll vT_flow_ranOffInAll cT_flow_width cT_present_above cT_present_edge cT_flow_goesOn cT_flow_comes cT_present_kind cT_flow_keeps cT_present_pool cT_flow_holds cT_present_store cT_told = some u ∧ f_X8_weather x1 vM_leaked vM_keptAll vM_offAll cM_d cM_came cM_got cM_held cM_off cM_found = some v ∧ u.1 = v.1 ∧ Inv cT_present_kind cT_present_above cT_present_edge u.2.2.2.2.2.2.2.2.2.2.2.2.2.2.2.1 u.2.2.2.2.2.2.2.2.2.2.2.2.2.2.2.2.2.1 cT_present_spot vT_present_basins u.2.1 u.2.2.1 u.2.2.2.1 vT_pictured cT_picture_kind cT_picture_above cT_picture_edge cT_picture_pool cT_picture_store cT_picture_spot vT_picture_basins vT_picture_spring vT_picture_hour vT_picture_z u.2.2.2.2.2.2.2.2.2.2.2.2.2.2.2.2.2.2 cT_tape_bytes vT_tape_size vT_sheets_bits vT_sheets_size cT_sheets_numbers v.2.2.2.2.1 vM_isKept cM_kept v.2.2.2.2.2.2.2.2.2 cM_tape vM_taped cM_bitsOf cM_sizeOf cM_number := by
  obtain ⟨⟨f, hV, hC, hM⟩, hI2, hT, hP, hS⟩ := hI
  have hF : RF cT_present_kind cT_present_above cT_present_edge cT_present_pool cT_present_store cT_present_spot vT_present_basins vT_present_spring vT_present_hour vT_present_z cM_d := ⟨f, hV, hC, hM⟩
  have hn : f.n ≤ 10 := hV.1
  have hG : VG f := VG_of hV
  have hw1 : f_X7_within x1 (1 : Int32) (12 : Int32) = some (kI (rg 1 12 x1)) := within_n (by decide) (by decide) x1
  have hw2 : f_X8_in x1.toInt64 (1 : Int64) (12 : Int64) = some (kI (rg 1 12 x1)) := in_n (by decide) rfl rfl x1
  have hh : f.hr ≤ 9999 := hV.2.2.2.1
  unfold f_X7_weather f_X8_weather
  rw [bd_t hw1, bd_t hw2, br_kI, br_kI]
  by_cases hw : rg 1 12 x1
  · rw [br_t1 hw, br_t1 hw]
    obtain ⟨k, hk1, hk, rfl⟩ := hw
    rw [hC.2.2.1, bd_t (late7 hh (by omega)), bd_t (late8 hh (by omega) hM.2.1), ← hC.2.2.1]
    by_cases hl : 9999 < f.hr + k
    · rw [kI_t hl, br_f1 (by decide), br_f1 (by decide), bd_t (tell4 _), bd_t (finds4 _)]
      exact ⟨_, _, rfl, rfl, rfl, hF, hI2, RT_tell hT 4, hP, hS⟩
    · rw [kI_f hl, br_t1 rfl, br_t1 rfl]
      unfold f_X7_weather_L36 f_X8_weather_L36
      refine two_imp (fun u v => u.1 = v.1 ∧ RF cT_present_kind cT_present_above cT_present_edge u.2.2.2.2.2.2.2.2.2.2.2.2.2.2.2.1 u.2.2.2.2.2.2.2.2.2.2.2.2.2.2.2.2.2.1 cT_present_spot vT_present_basins u.2.1 u.2.2.1 u.2.2.2.1 v.2.2.2.2.1 ∧ RT u.2.2.2.2.2.2.2.2.2.2.2.2.2.2.2.2.2.2 v.2.2.2.2.2.2.2.2.2) ?_ (fun u v e => ⟨e.1, e.2.1, hI2, e.2.2, hP, hS⟩)
      refine lp_two4 k (fun i s t => s.1 = t.1 ∧ s.2.1 = nI i ∧ t.2.1 = nI i ∧ (∃ g, VF g ∧ g.hr = f.hr + i ∧ CF g cT_present_kind cT_present_above cT_present_edge s.2.2.2.2.2.2.2.2.2.2.2.2.2.2.2.2.1 s.2.2.2.2.2.2.2.2.2.2.2.2.2.2.2.2.2.2.1 cT_present_spot vT_present_basins s.2.2.1 s.2.2.2.1 s.2.2.2.2.1 ∧ MF g t.2.2.2.2.2.1) ∧ s.2.2.2.2.2.2.2.2.2.2.2.2.2.2.2.2.2.2.2 = cT_told ∧ t.2.2.2.2.2.2.2.2.2.2 = cM_found) ⟨rfl, rfl, rfl, ⟨f, hV, rfl, hC, hM⟩, rfl, rfl⟩ (FU_gt (by omega)) ?_
      rintro i ⟨q2, q3, sg, hr, zz, v1, v2, v3, v4, v5, v6, v7, w1, w2, w3, w4, po, w5, st, tld⟩ ⟨p2, p3, vl, vk, vo, d1, c1, g1, h1, o1, fo⟩ hi ⟨a1, a2, a3, ⟨g, hVg, hgr, hCg, hMg⟩, a5, a6⟩ rc rd
      dsimp only at a1 a2 a3 hCg hMg a5 a6 ⊢
      subst a1 a2 a3 a5 a6
      unfold f_X7_weather_L36_b f_X8_weather_L36_b
      by_cases hx : i = k
      · left
        subst hx
        rw [br_t1 (nI_le (Nat.le_refl _) (by omega)), br_t1 (nI_le (Nat.le_refl _) (by omega))]
        exact ⟨_, _, rfl, rfl, rfl, ⟨g, hVg, hCg, hMg⟩, hT⟩
      · right
        refine ⟨by omega, ?_⟩
        obtain ⟨m, zz', hmm, d7, d8⟩ := draw_two g
        have hge : ¬ nI k ≤ nI i := nI_ge (by omega) (by omega)
        have hm : m % 300 ≤ 99999 := by omega
        have hr3 : nI m - nI m / (300 : Int32) * (300 : Int32) = nI (m % 300) := pk_rem (d := 300) hmm (by decide) (by decide)
        have hV2 : VF ((g.setZ zz').setSg (m % 300)) := VF_Sg (VF_Z hVg zz') hm
        obtain ⟨vk', vl', vr', vu', hr', w', g', c', k', p', h', s', hp, hpc, -⟩ := pass_c (VG_of hV2) (CF_Sg (CF_Z hCg zz') (m % 300)) (k := 1) (by decide) v1 v2 v3 v4 v5 v6 v7 w1 w2 w3 w4 w5
        obtain ⟨wl', wk', wo', d', c2, g2, h2, o2, hg, hgM⟩ := goOn_e (VG_of hV2) (MF_Sg (MF_Z hMg zz') (m % 300)) (k := 1) (by decide) vl vk vo c1 g1 h1 o1
        rw [br_f1 hge, bd_t (d7 _ hCg.2.2.2.1), br_f1 hge, bd_t (d8 _ hMg)]
        dsimp only
        rw [hr3, bd_t (show f_X1_pass (1 : Int32) _ _ _ _ _ _ _ _ _ _ _ _ _ _ _ _ _ _ _ _ = _ from hp), bd_t (show f_X8_goOn (1 : Int32) vl vk vo (upd (upd d1 2 zz') (3 : Int32).toNatClampNeg (nI (m % 300))) c1 g1 h1 o1 = _ from hg)]
        refine ⟨_, _, ?_, rfl, rfl⟩
        refine ⟨rfl, nI_1 i, nI_1 i, ⟨_, VF_it hV2 (k := 1) ?_, ?_, hpc, hgM⟩, rfl, rfl⟩
        · have e9 : ((g.setZ zz').setSg (m % 300)).hr = g.hr := rfl
          omega
        · have e9 : ((g.setZ zz').setSg (m % 300)).hr = g.hr := rfl
          rw [(it_same _ 1).2.2.2.2.2.2.1]
          omega
  · rw [br_f1 hw, br_f1 hw, bd_t (tell0 _), bd_t (finds0 _)]
    exact ⟨_, _, rfl, rfl, rfl, hF, hI2, RT_tell hT 0, hP, hS⟩
theorem L_wear (x1 : Int32) (cT_present_kind : Nat → Int32) (cT_present_above : Nat → Int32) (cT_present_edge : Nat → Int32) (cT_present_pool : Nat → Int32) (cT_present_store : Nat → Int32) (cT_present_spot : Nat → Int32) (vT_present_basins : Int32) (vT_present_spring : Int32) (vT_present_hour : Int32) (vT_present_z : Int32) (vT_pictured : Int32) (cT_picture_kind : Nat → Int32) (cT_picture_above : Nat → Int32) (cT_picture_edge : Nat → Int32) (cT_picture_pool : Nat → Int32) (cT_picture_store : Nat → Int32) (cT_picture_spot : Nat → Int32) (vT_picture_basins : Int32) (vT_picture_spring : Int32) (vT_picture_hour : Int32) (vT_picture_z : Int32) (cT_told : Nat → Int32) (cT_tape_bytes : Nat → Int32) (vT_tape_size : Int32) (vT_sheets_bits : Nat → Int32) (vT_sheets_size : Nat → Int32) (cT_sheets_numbers : Nat → Nat → Int32) (cM_d : Nat → Int32) (vM_isKept : Int32) (cM_kept : Nat → Int32) (cM_found : Nat → Int32) (cM_tape : Nat → Int32) (vM_taped : Int32) (cM_bitsOf : Nat → Int32) (cM_sizeOf : Nat → Int32) (cM_number : Nat → Int32) (vT_flow_kept : Int32) (vT_flow_leaked : Int32) (vT_flow_ranOff : Int32) (vT_flow_uneven : Int32) (cT_flow_width : Nat → Int32) (cT_flow_goesOn : Nat → Int32) (cT_flow_comes : Nat → Int32) (cT_flow_keeps : Nat → Int32) (cT_flow_holds : Nat → Int32) (vM_leaked : Int32) (vM_keptAll : Int32) (vM_offAll : Int32) (cM_came : Nat → Int32) (cM_got : Nat → Int32) (cM_held : Nat → Int32) (cM_off : Nat → Int32) (hI : Inv cT_present_kind cT_present_above cT_present_edge cT_present_pool cT_present_store cT_present_spot vT_present_basins vT_present_spring vT_present_hour vT_present_z vT_pictured cT_picture_kind cT_picture_above cT_picture_edge cT_picture_pool cT_picture_store cT_picture_spot vT_picture_basins vT_picture_spring vT_picture_hour vT_picture_z cT_told cT_tape_bytes vT_tape_size vT_sheets_bits vT_sheets_size cT_sheets_numbers cM_d vM_isKept cM_kept cM_found cM_tape vM_taped cM_bitsOf cM_sizeOf cM_number) : ∃ (u : Int32 × Int32 × (Nat → Int32) × Int32 × Int32 × Int32 × Int32 × (Nat → Int32) × (Nat → Int32) × (Nat → Int32) × (Nat → Int32) × (Nat → Int32) × (Nat → Int32)) (v : Int32 × Int32 × Int32 × Int32 × (Nat → Int32) × (Nat → Int32) × (Nat → Int32) × (Nat → Int32) × (Nat → Int32) × (Nat → Int32)), f_X7_wear x1 vT_present_basins vT_present_spring vT_present_z cT_present_kind vT_flow_kept vT_flow_leaked vT_flow_ranOff vT_flow_uneven cT_flow_width cT_present_above cT_present_edge cT_flow_goesOn cT_flow_comes cT_flow_keeps cT_present_pool cT_flow_holds cT_told = some u ∧ f_X8_wear x1 vM_leaked vM_keptAll vM_offAll cM_d cM_came cM_got cM_held cM_off cM_found = some v ∧ u.1 = v.1 ∧ Inv u.2.2.1 cT_present_above cT_present_edge cT_present_pool cT_present_store cT_present_spot vT_present_basins vT_present_spring vT_present_hour u.2.1 vT_pictured cT_picture_kind cT_picture_above cT_picture_edge cT_picture_pool cT_picture_store cT_picture_spot vT_picture_basins vT_picture_spring vT_picture_hour vT_picture_z u.2.2.2.2.2.2.2.2.2.2.2.2 cT_tape_bytes vT_tape_size vT_sheets_bits vT_sheets_size cT_sheets_numbers v.2.2.2.2.1 vM_isKept cM_kept v.2.2.2.2.2.2.2.2.2 cM_tape vM_taped cM_bitsOf cM_sizeOf cM_number := by
  obtain ⟨⟨f, hV, hC, hM⟩, hI2, hT, hP, hS⟩ := hI
  have hF : RF cT_present_kind cT_present_above cT_present_edge cT_present_pool cT_present_store cT_present_spot vT_present_basins vT_present_spring vT_present_hour vT_present_z cM_d := ⟨f, hV, hC, hM⟩
  have hn : f.n ≤ 10 := hV.1
  have hG : VG f := VG_of hV
  have hw1 : f_X7_within x1 (1 : Int32) (12 : Int32) = some (kI (rg 1 12 x1)) := within_n (by decide) (by decide) x1
  have hw2 : f_X8_in x1.toInt64 (1 : Int64) (12 : Int64) = some (kI (rg 1 12 x1)) := in_n (by decide) rfl rfl x1
  unfold f_X7_wear f_X8_wear
  rw [bd_t hw1, bd_t hw2, br_kI, br_kI, show cM_d (0 : Int32).toNatClampNeg = nI f.n from hM.1]
  obtain rfl := hC.1
  by_cases hw : rg 1 12 x1
  · rw [br_t1 hw, br_t1 hw]
    obtain ⟨k, hk1, hk, rfl⟩ := hw
    by_cases h0 : f.n = 0
    · rw [br_t1 (show nI f.n = 0 by rw [h0]; rfl), br_f1 (show ¬ (0 : Int32) < nI f.n by rw [h0]; decide), bd_t (tell4 _), bd_t (finds4 _)]
      exact ⟨_, _, rfl, rfl, rfl, hF, hI2, RT_tell hT 4, hP, hS⟩
    · rw [br_f1 (nI_ne 0 0 h0), br_t1 (show (0 : Int32) < nI f.n from nI_lt (a := 0) (by omega) (by omega))]
      unfold f_X7_wear_L38 f_X8_wear_L35
      refine two_imp (fun u v => u.1 = v.1 ∧ RF u.2.2.1 cT_present_above cT_present_edge cT_present_pool cT_present_store cT_present_spot (nI f.n) vT_present_spring vT_present_hour u.2.1 v.2.2.2.2.1 ∧ RT u.2.2.2.2.2.2.2.2.2.2.2.2 v.2.2.2.2.2.2.2.2.2) ?_ (fun u v e => ⟨e.1, e.2.1, hI2, e.2.2, hP, hS⟩)
      refine lp_two4 k (fun i s t => s.1 = nI f.n ∧ s.2.1 = nI i ∧ t.1 = nI i ∧ (∃ g, VF g ∧ g.n = f.n ∧ CF g s.2.2.2.1 cT_present_above cT_present_edge cT_present_pool cT_present_store cT_present_spot (nI f.n) vT_present_spring vT_present_hour s.2.2.1 ∧ MF g t.2.2.2.2.1) ∧ s.2.2.2.2.2.2.2.2.2.2.2.2.2 = cT_told ∧ t.2.2.2.2.2.2.2.2.2 = cM_found) ⟨rfl, rfl, rfl, ⟨f, hV, rfl, hC, hM⟩, rfl, rfl⟩ (FU_gt (by omega)) ?_
      rintro i ⟨q2, q3, zz, kd, v1, v2, v3, v4, w1, w2, w3, w4, w5, tld⟩ ⟨p3, vl, vk, vo, d1, c1, g1, h1, o1, fo⟩ hi ⟨a1, a2, a3, ⟨g, hVg, hgn, hCg, hMg⟩, a5, a6⟩ rc rd
      dsimp only at a1 a2 a3 hCg hMg a5 a6 ⊢
      subst a1 a2 a3 a5 a6
      unfold f_X7_wear_L38_b f_X8_wear_L35_b
      by_cases hx : i = k
      · left
        subst hx
        have hCG : CG g kd cT_present_above cT_present_edge cT_present_pool := fun b hb => by
          obtain ⟨a1, a2, a3, a4, a5⟩ := hCg.2.2.2.2.1 b hb
          exact ⟨a1, a2, a3, a4⟩
        obtain ⟨w', g', c', k', h', hR, hv⟩ := reckon_e (VG_of hVg) hCG v1 v2 v3 v4 w1 w2 w3 w4 w5
        rw [← hCg.1, ← hCg.2.1] at hR
        obtain ⟨c, g2, h, o, hL, hv2⟩ := look_e (VG_of hVg) hMg vl vk vo c1 g1 h1 o1
        rw [br_t1 (nI_le (Nat.le_refl _) (by omega)), br_t1 (nI_le (Nat.le_refl _) (by omega))]
        unfold f_X7_wear_J80
        rw [bd_t hR, bd_t hL]
        exact ⟨_, _, rfl, rfl, rfl, ⟨g, hVg, hCg, hMg⟩, hT⟩
      · right
        refine ⟨by omega, ?_⟩
        obtain ⟨m, zz', hmm, d7, d8⟩ := draw_two g
        have hge : ¬ nI k ≤ nI i := nI_ge (by omega) (by omega)
        obtain ⟨m2, zz2, hmm2, d72, d82⟩ := draw_two (g.setZ zz')
        have hn0 : ¬ nI f.n = 0 := nI_ne 0 0 h0
        have hr3 : nI m - nI m / nI f.n * nI f.n = nI (m % f.n) := pk_rem hmm (by omega) (by omega)
        have hb : m % f.n < f.n := Nat.mod_lt _ (by omega)
        have hb2 : m % f.n < g.n := by rw [hgn]; exact hb
        have hM2 := MF_Z hMg zz'
        have hM3 := MF_Z hM2 zz2
        have hr7 : nI m2 - nI m2 / (7 : Int32) * (7 : Int32) = nI (m2 % 7) := pk_rem (d := 7) hmm2 (by decide) (by decide)
        have hd0 : (upd d1 2 zz') (0 : Int32).toNatClampNeg = nI f.n := by
          rw [← hgn]; exact hM2.1
        rw [br_f1 hge, bd_t (d7 _ hCg.2.2.2.1), br_f1 hge, bd_t (d8 _ hMg)]
        dsimp only
        rw [hd0, gd_t hn0, gd_t hn0, hr3, nm_q, nm_q, bd_t (d72 zz' rfl), bd_t (d82 _ hM2)]
        dsimp only
        rw [hr7, gd_t (vp_in_nI (by omega) (by decide)), nI_clamp (by omega), bd_t (show f_X8_sets (nI (m % f.n)) (0 : Int32) (nI (m2 % 7)) _ = _ from sets_e (c := 0) (by omega) _ _)]
        refine ⟨_, _, ?_, rfl, rfl⟩
        exact ⟨rfl, nI_1 i, nI_1 i, ⟨((g.setZ zz').setZ zz2).setKd (m % f.n) (m2 % 7), VF_Kd (VF_Z (VF_Z hVg _) _) _ (by omega), hgn, CF_Kd (CF_Z (CF_Z hCg _) _) _ _, MF_Kd hM3 (by show g.n ≤ 10; omega) hb2 _⟩, rfl, rfl⟩
  · rw [br_f1 hw, br_f1 hw, bd_t (tell0 _), bd_t (finds0 _)]
    exact ⟨_, _, rfl, rfl, rfl, hF, hI2, RT_tell hT 0, hP, hS⟩
