theorem L_hurt (x1 x2 : Int32) (cT_present_kind : Nat → Int32) (cT_present_above : Nat → Int32) (cT_present_edge : Nat → Int32) (cT_present_pool : Nat → Int32) (cT_present_store : Nat → Int32) (cT_present_spot : Nat → Int32) (vT_present_basins : Int32) (vT_present_spring : Int32) (vT_present_hour : Int32) (vT_present_z : Int32) (vT_pictured : Int32) (cT_picture_kind : Nat → Int32) (cT_picture_above : Nat → Int32) (cT_picture_edge : Nat → Int32) (cT_picture_pool : Nat → Int32) (cT_picture_store : Nat → Int32) (cT_picture_spot : Nat → Int32) (vT_picture_basins : Int32) (vT_picture_spring : Int32) (vT_picture_hour : Int32) (vT_picture_z : Int32) (cT_told : Nat → Int32) (cT_tape_bytes : Nat → Int32) (vT_tape_size : Int32) (vT_sheets_bits : Nat → Int32) (vT_sheets_size : Nat → Int32) (cT_sheets_numbers : Nat → Nat → Int32) (cM_d : Nat → Int32) (vM_isKept : Int32) (cM_kept : Nat → Int32) (cM_found : Nat → Int32) (cM_tape : Nat → Int32) (vM_taped : Int32) (cM_bitsOf : Nat → Int32) (cM_sizeOf : Nat → Int32) (cM_number : Nat → Int32) (vT_trial_basins : Int32) (vT_trial_spring : Int32) (vT_trial_hour : Int32) (vT_trial_z : Int32) (cT_trial_kind : Nat → Int32) (cT_trial_above : Nat → Int32) (cT_trial_edge : Nat → Int32) (cT_trial_pool : Nat → Int32) (cT_trial_store : Nat → Int32) (cT_trial_spot : Nat → Int32) (vT_flow_kept : Int32) (vT_flow_leaked : Int32) (vT_flow_ranOff : Int32) (vT_flow_uneven : Int32) (vT_flow_keptInAll : Int32) (vT_flow_leakedInAll : Int32) (vT_flow_ranOffInAll : Int32) (cT_flow_width : Nat → Int32) (cT_flow_goesOn : Nat → Int32) (cT_flow_comes : Nat → Int32) (cT_flow_keeps : Nat → Int32) (cT_flow_holds : Nat → Int32) (cT_usual : Nat → Int32) (vM_leaked : Int32) (vM_keptAll : Int32) (vM_offAll : Int32) (vM_triedOff : Int32) (vM_triedLeaked : Int32) (vM_triedKept : Int32) (cM_f : Nat → Int32) (cM_came : Nat → Int32) (cM_got : Nat → Int32) (cM_held : Nat → Int32) (cM_off : Nat → Int32) (cM_gets : Nat → Int32) (cM_gotNow : Nat → Int32) (hI : Inv cT_present_kind cT_present_above cT_present_edge cT_present_pool cT_present_store cT_present_spot vT_present_basins vT_present_spring vT_present_hour vT_present_z vT_pictured cT_picture_kind cT_picture_above cT_picture_edge cT_picture_pool cT_picture_store cT_picture_spot vT_picture_basins vT_picture_spring vT_picture_hour vT_picture_z cT_told cT_tape_bytes vT_tape_size vT_sheets_bits vT_sheets_size cT_sheets_numbers cM_d vM_isKept cM_kept cM_found cM_tape vM_taped cM_bitsOf cM_sizeOf cM_number) : ∃ (u : Int32 × Int32 × Int32 × Int32 × Int32 × (Nat → Int32) × (Nat → Int32) × (Nat → Int32) × (Nat → Int32) × (Nat → Int32) × (Nat → Int32) × Int32 × Int32 × Int32 × Int32 × Int32 × Int32 × Int32 × (Nat → Int32) × (Nat → Int32) × (Nat → Int32) × (Nat → Int32) × (Nat → Int32) × (Nat → Int32) × (Nat → Int32)) (v : Int32 × Int32 × Int32 × Int32 × Int32 × Int32 × Int32 × (Nat → Int32) × (Nat → Int32) × (Nat → Int32) × (Nat → Int32) × (Nat → Int32) × (Nat → Int32) × (Nat → Int32) × (Nat → Int32) × (Nat → Int32)), f_X7_hurt x1 x2 vT_present_basins vT_present_spring vT_present_hour vT_present_z vT_trial_basins vT_trial_spring vT_trial_hour vT_trial_z cT_present_kind cT_trial_kind cT_present_above cT_trial_above cT_present_edge cT_trial_edge cT_present_pool cT_trial_pool cT_present_store cT_trial_store cT_present_spot cT_trial_spot vT_flow_kept vT_flow_leaked vT_flow_ranOff vT_flow_uneven vT_flow_keptInAll vT_flow_leakedInAll vT_flow_ranOffInAll cT_flow_width cT_flow_goesOn cT_flow_comes cT_flow_keeps cT_flow_holds cT_usual cT_told = some u ∧ f_X8_hurt x1 x2 vM_leaked vM_keptAll vM_offAll vM_triedOff vM_triedLeaked vM_triedKept cM_d cM_f cM_came cM_got cM_held cM_off cM_gets cM_gotNow cM_found = some v ∧ u.1 = v.1 ∧ Inv cT_present_kind cT_present_above cT_present_edge cT_present_pool cT_present_store cT_present_spot vT_present_basins vT_present_spring vT_present_hour vT_present_z vT_pictured cT_picture_kind cT_picture_above cT_picture_edge cT_picture_pool cT_picture_store cT_picture_spot vT_picture_basins vT_picture_spring vT_picture_hour vT_picture_z u.2.2.2.2.2.2.2.2.2.2.2.2.2.2.2.2.2.2.2.2.2.2.2.2 cT_tape_bytes vT_tape_size vT_sheets_bits vT_sheets_size cT_sheets_numbers v.2.2.2.2.2.2.2.1 vM_isKept cM_kept v.2.2.2.2.2.2.2.2.2.2.2.2.2.2.2 cM_tape vM_taped cM_bitsOf cM_sizeOf cM_number := by
  obtain ⟨⟨f, hV, hC, hM⟩, hI2, hT, hP, hS⟩ := hI
  have hF : RF cT_present_kind cT_present_above cT_present_edge cT_present_pool cT_present_store cT_present_spot vT_present_basins vT_present_spring vT_present_hour vT_present_z cM_d := ⟨f, hV, hC, hM⟩
  have hn : f.n ≤ 10 := hV.1
  have hG : VG f := VG_of hV
  obtain rfl := hC.1
  obtain rfl := hC.2.1
  obtain rfl := hC.2.2.1
  have hh : f.hr ≤ 9999 := hV.2.2.2.1
  unfold f_X7_hurt f_X8_hurt
  rcases weighB hn hh hM x1 x2 (lo := 0) (by decide) (fun q => absurd q (by decide)) with ⟨b, k, hb, hk1, hk, rfl, rfl, hl, e7, e8⟩ | ⟨e7, e8⟩ | ⟨e7, e8⟩
  · rw [bd_t e7, bd_t (show f_X8_why (nI b) (nI k) (0 : Int32) cM_d = some (-1) from e8), br_t1 rfl, br_t1 (show (-1 : Int32) < 0 by decide)]
    refine two_ex (fun u => u.1 = setI (fun o => ¬ nI (f.gt k o) ≤ nI ((f.setKd b 1).gt k o)) f.n ∧ u.2.2.2.2.2.2.2.2.2.2.2.2.2.2.2.2.2.2.2.2.2.2.2.2 = cT_told) (fun v => v.1 = setI (fun o => ¬ nI (f.gt k o) ≤ nI ((f.setKd b 1).gt k o)) f.n ∧ (∀ i, i < 64 → v.2.2.2.2.2.2.2.1 i = cM_d i) ∧ v.2.2.2.2.2.2.2.2.2.2.2.2.2.2.2 = cM_found) ?_ ?_ ?_
    · obtain ⟨tb, ts, th, tz, tk, ta, te, tp, tst, tsp, v1, v2, v3, v4, v5, v6, v7, w1, w2, w3, w4, w5, us, hU, hUv⟩ := usual_e hG hC (k := k) (by omega) vT_trial_basins vT_trial_spring vT_trial_hour vT_trial_z cT_trial_kind cT_trial_above cT_trial_edge cT_trial_pool cT_trial_store cT_trial_spot vT_flow_kept vT_flow_leaked vT_flow_ranOff vT_flow_uneven vT_flow_keptInAll vT_flow_leakedInAll vT_flow_ranOffInAll cT_flow_width cT_flow_goesOn cT_flow_comes cT_flow_keeps cT_flow_holds cT_usual
      rw [bd_t hU]
      dsimp only
      obtain ⟨tb', ts', th', tz', tk', ta', te', tp', tst', tsp', v1', v2', v3', v4', v5', v6', v7', w1', w2', w3', w4', w5', hp, hpv⟩ := asKind_e hG hC hb (c := 1) (by decide) (k := k) (by omega) tb ts th tz tk ta te tp tst tsp v1 v2 v3 v4 v5 v6 v7 w1 w2 w3 w4 w5
      rw [bd_t (show f_X7_passAsKind (nI b) (1 : Int32) (nI k) _ _ _ _ _ _ _ _ _ _ _ _ _ _ _ _ _ _ _ _ _ _ _ _ _ _ _ _ _ _ _ _ = _ from hp)]
      dsimp only
      unfold f_X7_hurt_L35
      refine lp_go3 f.n (fun i s => s.1 = setI (fun o => ¬ nI (f.gt k o) ≤ nI ((f.setKd b 1).gt k o)) i ∧ s.2.1 = nI i ∧ s.2.2.2.2.2.2.2.2.2.2.1 = tst' ∧ s.2.2.2.2.2.2.2.2.2.2.2.2.2.2.2.2.2.2.2.2.2.2.2.2.1 = us ∧ s.2.2.2.2.2.2.2.2.2.2.2.2.2.2.2.2.2.2.2.2.2.2.2.2.2 = cT_told) ⟨rfl, rfl, rfl, rfl, rfl⟩ (FU_gt (by omega)) ?_
      rintro i ⟨y4, y5, tb, ts, th, tz, tk, ta, te, tp, tst, tsp, v1, v2, v3, v4, v5, v6, v7, w1, w2, w3, w4, w5, uu, tt⟩ hi ⟨a1, a2, a3, a4, a5⟩ rc
      dsimp only at a1 a2 a3 a4 a5 ⊢
      subst a1 a2 a3 a4 a5
      unfold f_X7_hurt_L35_b
      by_cases hx : i = f.n
      · left
        subst hx
        rw [br_t1 (nI_le (Nat.le_refl _) (by omega))]
        exact ⟨_, rfl, rfl, rfl⟩
      · right
        have hi' : i < f.n := by omega
        have v : vp_in (nI i) 10 := vp_in_nI (by omega) (by decide)
        have hg := gain_e2 (f := f) (g := f.setKd b 1) hn hi' rfl (hpv i hi') (hC.2.2.2.2.1 i hi').2.2.2.2
        refine ⟨hi', ?_⟩
        rw [br_f1 (nI_ge hi' (by omega)), bd_t hg, gd_t v, nI_clamp (by omega), hUv i hi']
        by_cases q : nI (f.gt k i) ≤ nI ((f.setKd b 1).gt k i)
        · rw [br_t1 q]
          exact ⟨_, ⟨(setI_f (P := fun o => ¬ nI (f.gt k o) ≤ nI ((f.setKd b 1).gt k o)) (fun z => z q)).symm, nI_1 _, rfl, rfl, rfl⟩, rfl⟩
        · rw [br_f1 q, nm_q]
          exact ⟨_, ⟨(setI_t (P := fun o => ¬ nI (f.gt k o) ≤ nI ((f.setKd b 1).gt k o)) q).symm, nI_1 _, rfl, rfl, rfl⟩, rfl⟩
    · obtain ⟨vl, vk, vo, va, vb, vc, d1, F1, c1, g1, h1, o1, gs1, gn1, hK, hKd, hKv⟩ := keepGets_e hG hM (k := k) (by omega) vM_leaked vM_keptAll vM_offAll vM_triedOff vM_triedLeaked vM_triedKept cM_f cM_came cM_got cM_held cM_off cM_gets cM_gotNow
      have hM1 : MF f d1 := MF_cong hn hM hKd
      have hM2 := MF_Kd hM1 hn hb 1
      obtain ⟨vl', vk', vo', d2, F', c, g, h, o, gs, hT2, hd2, hg2⟩ := tries_e (VG_Kd hG b (v := 1) (by decide)) hM2 (k := k) (by omega) vl vk vo va vb vc F1 c1 g1 h1 o1 gs1
      rw [bd_t hK]
      dsimp only
      rw [bd_t (its_k hM1 hn hb).1, bd_t (show f_X8_sets (nI b) (0 : Int32) (1 : Int32) d1 = _ from sets_e (c := 0) (by omega) _ _)]
      rw [bd_t (show f_X8_tries (nI k) _ _ _ _ _ _ (upd d1 (4 + 5 * b + 0) 1) _ _ _ _ _ _ = _ from hT2)]
      dsimp only
      rw [bd_t (show f_X8_sets (nI b) (0 : Int32) _ _ = _ from sets_e (c := 0) (by omega) _ _)]
      have hd3 : ∀ i, i < 64 → upd d2 (4 + 5 * b + 0) (nI (f.kd b)) i = cM_d i := by
        intro i hi
        by_cases e : i = 4 + 5 * b + 0
        · rw [e, pk_us]; exact (hM.2.2.2.2.1 b hb).1.symm
        · have e2 : upd d1 (4 + 5 * b) (nI 1) i = d1 i := pk_un e
          rw [pk_un e, hd2 i hi, e2, hKd i hi]
      have hM3 : MF f (upd d2 (4 + 5 * b + 0) (nI (f.kd b))) := MF_cong hn hM hd3
      rw [bd_t (getting0_e hn hM3.1 _ _)]
      refine ⟨_, rfl, ?_, hd3, rfl⟩
      exact setI_cong (fun o ho => by rw [hKv o ho, hg2 o ho])
    · rintro u v ⟨h1, h2⟩ ⟨h3, h4, h5⟩
      rw [h2, h5]
      exact ⟨h1.trans h3.symm, ⟨f, hV, hC, MF_cong hn hM h4⟩, hI2, hT, hP, hS⟩
  · rw [bd_t e7, bd_t (show f_X8_why x1 x2 (0 : Int32) cM_d = some 0 from e8), br_f1 (show ¬ (-1000001 : Int32) = 0 by decide), br_f1 (show ¬ (0 : Int32) < 0 by decide), bd_t (tell0 _), bd_t (finds0 _)]
    exact ⟨_, _, rfl, rfl, rfl, hF, hI2, RT_tell hT 0, hP, hS⟩
  · rw [bd_t e7, bd_t (show f_X8_why x1 x2 (0 : Int32) cM_d = some 4 from e8), br_f1 (show ¬ (-1000005 : Int32) = 0 by decide), br_f1 (show ¬ (4 : Int32) < 0 by decide), bd_t (tell4 _), bd_t (finds4 _)]
    exact ⟨_, _, rfl, rfl, rfl, hF, hI2, RT_tell hT 4, hP, hS⟩
theorem others_e {f g : Fo} {k b : Nat} (hn : f.n ≤ 10) (hb : b < f.n) (hg : g.st = f.st) {s p us : Nat → Int32} (hs : ∀ o, o < f.n → s o = (g.it k).st o) (hp : ∀ o, o < f.n → p o = f.st o) (hu : ∀ o, o < f.n → us o = nI (f.gt k o)) :
    f_X7_othersThatGain (nI b) (nI f.n) s p us = some (nI (cntN (fun o => o ≠ b ∧ ¬ nI (g.gt k o) ≤ nI (f.gt k o)) f.n)) := by
  unfold f_X7_othersThatGain f_X7_othersThatGain_L4
  refine lp_go2 _ (fun i (s : Int32 × Int32) => s.1 = nI (cntN (fun o => o ≠ b ∧ ¬ nI (g.gt k o) ≤ nI (f.gt k o)) i) ∧ s.2 = nI i) f.n (fun o => o = some (nI (cntN (fun o => o ≠ b ∧ ¬ nI (g.gt k o) ≤ nI (f.gt k o)) f.n))) ?_ _ ⟨rfl, rfl⟩ (FU_gt (by omega))
  rintro i ⟨y1, y2⟩ hi ⟨a1, a2⟩ rc
  dsimp only at a1 a2 ⊢
  subst a1 a2
  unfold f_X7_othersThatGain_L4_b
  by_cases hx : i = f.n
  · left
    subst hx
    rw [br_t1 (nI_le (Nat.le_refl _) (by omega))]
  · right
    have hi' : i < f.n := by omega
    have v : vp_in (nI i) 10 := vp_in_nI (by omega) (by decide)
    rw [br_f1 (nI_ge (by omega) (by omega))]
    refine ⟨hi', ?_⟩
    by_cases e : i = b
    · rw [br_t1 (by rw [e])]
      exact ⟨_, ⟨congrArg nI (cntN_f (P := fun o => o ≠ b ∧ ¬ nI (g.gt k o) ≤ nI (f.gt k o)) (fun z => z.1 e)).symm, nI_1 i⟩, rfl⟩
    · rw [br_f1 (fun z => e ((nI_eq (by omega) (by omega)).mp z)), bd_t (gain_e2 (f := f) (g := g) hn hi' (by rw [hg]) (hs i hi') (hp i hi')), gd_t v, nI_clamp (by omega), hu i hi']
      by_cases q : nI (g.gt k i) ≤ nI (f.gt k i)
      · rw [br_t1 q]
        exact ⟨_, ⟨congrArg nI (cntN_f (P := fun o => o ≠ b ∧ ¬ nI (g.gt k o) ≤ nI (f.gt k o)) (fun z => z.2 q)).symm, nI_1 i⟩, rfl⟩
      · rw [br_f1 q]
        exact ⟨_, ⟨(nI_1 _).trans (congrArg nI (cntN_t (P := fun o => o ≠ b ∧ ¬ nI (g.gt k o) ≤ nI (f.gt k o)) ⟨e, q⟩).symm), nI_1 i⟩, rfl⟩
theorem ones_S {n b : Nat} (hn : n ≤ 10) (hb : b < n) (P : Nat → Prop) : cntN (fun k => tb (setI P n &&& (btI b ^^^ -1)) k = true) 10 = cntN (fun o => o ≠ b ∧ P o) n := by
  have e : ∀ k, k < 32 → (tb (setI P n &&& (btI b ^^^ -1)) k = true ↔ k ≠ b ∧ k < n ∧ P k) := by
    intro k hk
    rw [tb_and, tb_xor, tb_bt b (by omega) k hk, tb_m1 k hk, Bool.xor_true, Bool.and_eq_true, tb_setI n hn k hk, Bool.not_eq_true', decide_eq_false_iff_not]
    exact And.comm
  have e10 : cntN (fun k => tb (setI P n &&& (btI b ^^^ -1)) k = true) 10 = cntN (fun k => k ≠ b ∧ k < n ∧ P k) 10 := cntN_cong (fun k hk => e k (by omega))
  rw [e10]
  have h2 := cntN_ext (P := fun k => k ≠ b ∧ k < n ∧ P k) (n := n) (fun k hk z => absurd z.2.1 (by omega)) (10 - n)
  rw [show n + (10 - n) = 10 by omega] at h2
  rw [h2]
  exact cntN_cong (fun k hk => ⟨fun z => ⟨z.1, z.2.2⟩, fun z => ⟨z.1, hk, z.2⟩⟩)
theorem back_d {f : Fo} (hn : f.n ≤ 10) {d D E : Nat → Int32} (hM : MF f d) {j : Nat} {v w : Int32} (h1 : ∀ i, i < 64 → D i = upd d j v i) (h2 : E = upd D j w) (hw : w = d j) : ∀ i, i < 64 → E i = d i := by
  intro i hi
  rw [h2]
  by_cases e : i = j
  · rw [e, pk_us, hw]
  · rw [pk_un e, h1 i hi, pk_un e]
theorem L_generous (x1 : Int32) (cT_present_kind : Nat → Int32) (cT_present_above : Nat → Int32) (cT_present_edge : Nat → Int32) (cT_present_pool : Nat → Int32) (cT_present_store : Nat → Int32) (cT_present_spot : Nat → Int32) (vT_present_basins : Int32) (vT_present_spring : Int32) (vT_present_hour : Int32) (vT_present_z : Int32) (vT_pictured : Int32) (cT_picture_kind : Nat → Int32) (cT_picture_above : Nat → Int32) (cT_picture_edge : Nat → Int32) (cT_picture_pool : Nat → Int32) (cT_picture_store : Nat → Int32) (cT_picture_spot : Nat → Int32) (vT_picture_basins : Int32) (vT_picture_spring : Int32) (vT_picture_hour : Int32) (vT_picture_z : Int32) (cT_told : Nat → Int32) (cT_tape_bytes : Nat → Int32) (vT_tape_size : Int32) (vT_sheets_bits : Nat → Int32) (vT_sheets_size : Nat → Int32) (cT_sheets_numbers : Nat → Nat → Int32) (cM_d : Nat → Int32) (vM_isKept : Int32) (cM_kept : Nat → Int32) (cM_found : Nat → Int32) (cM_tape : Nat → Int32) (vM_taped : Int32) (cM_bitsOf : Nat → Int32) (cM_sizeOf : Nat → Int32) (cM_number : Nat → Int32) (vT_trial_basins : Int32) (vT_trial_spring : Int32) (vT_trial_hour : Int32) (vT_trial_z : Int32) (cT_trial_kind : Nat → Int32) (cT_trial_above : Nat → Int32) (cT_trial_edge : Nat → Int32) (cT_trial_pool : Nat → Int32) (cT_trial_store : Nat → Int32) (cT_trial_spot : Nat → Int32) (vT_flow_kept : Int32) (vT_flow_leaked : Int32) (vT_flow_ranOff : Int32) (vT_flow_uneven : Int32) (vT_flow_keptInAll : Int32) (vT_flow_leakedInAll : Int32) (vT_flow_ranOffInAll : Int32) (cT_flow_width : Nat → Int32) (cT_flow_goesOn : Nat → Int32) (cT_flow_comes : Nat → Int32) (cT_flow_keeps : Nat → Int32) (cT_flow_holds : Nat → Int32) (cT_usual : Nat → Int32) (vM_leaked : Int32) (vM_keptAll : Int32) (vM_offAll : Int32) (vM_triedOff : Int32) (vM_triedLeaked : Int32) (vM_triedKept : Int32) (cM_f : Nat → Int32) (cM_came : Nat → Int32) (cM_got : Nat → Int32) (cM_held : Nat → Int32) (cM_off : Nat → Int32) (cM_gets : Nat → Int32) (cM_gotNow : Nat → Int32) (hI : Inv cT_present_kind cT_present_above cT_present_edge cT_present_pool cT_present_store cT_present_spot vT_present_basins vT_present_spring vT_present_hour vT_present_z vT_pictured cT_picture_kind cT_picture_above cT_picture_edge cT_picture_pool cT_picture_store cT_picture_spot vT_picture_basins vT_picture_spring vT_picture_hour vT_picture_z cT_told cT_tape_bytes vT_tape_size vT_sheets_bits vT_sheets_size cT_sheets_numbers cM_d vM_isKept cM_kept cM_found cM_tape vM_taped cM_bitsOf cM_sizeOf cM_number) : ∃ (u : Int32 × Int32 × Int32 × Int32 × Int32 × (Nat → Int32) × (Nat → Int32) × (Nat → Int32) × (Nat → Int32) × (Nat → Int32) × (Nat → Int32) × Int32 × Int32 × Int32 × Int32 × Int32 × Int32 × Int32 × (Nat → Int32) × (Nat → Int32) × (Nat → Int32) × (Nat → Int32) × (Nat → Int32) × (Nat → Int32) × (Nat → Int32)) (v : Int32 × Int32 × Int32 × Int32 × Int32 × Int32 × Int32 × (Nat → Int32) × (Nat → Int32) × (Nat → Int32) × (Nat → Int32) × (Nat → Int32) × (Nat → Int32) × (Nat → Int32) × (Nat → Int32) × (Nat → Int32)), f_X7_generous x1 vT_present_basins vT_present_spring vT_present_hour vT_present_z vT_trial_basins vT_trial_spring vT_trial_hour vT_trial_z cT_present_kind cT_trial_kind cT_present_above cT_trial_above cT_present_edge cT_trial_edge cT_present_pool cT_trial_pool cT_present_store cT_trial_store cT_present_spot cT_trial_spot vT_flow_kept vT_flow_leaked vT_flow_ranOff vT_flow_uneven vT_flow_keptInAll vT_flow_leakedInAll vT_flow_ranOffInAll cT_flow_width cT_flow_goesOn cT_flow_comes cT_flow_keeps cT_flow_holds cT_usual cT_told = some u ∧ f_X8_generous x1 vM_leaked vM_keptAll vM_offAll vM_triedOff vM_triedLeaked vM_triedKept cM_d cM_f cM_came cM_got cM_held cM_off cM_gets cM_gotNow cM_found = some v ∧ u.1 = v.1 ∧ Inv cT_present_kind cT_present_above cT_present_edge cT_present_pool cT_present_store cT_present_spot vT_present_basins vT_present_spring vT_present_hour vT_present_z vT_pictured cT_picture_kind cT_picture_above cT_picture_edge cT_picture_pool cT_picture_store cT_picture_spot vT_picture_basins vT_picture_spring vT_picture_hour vT_picture_z u.2.2.2.2.2.2.2.2.2.2.2.2.2.2.2.2.2.2.2.2.2.2.2.2 cT_tape_bytes vT_tape_size vT_sheets_bits vT_sheets_size cT_sheets_numbers v.2.2.2.2.2.2.2.1 vM_isKept cM_kept v.2.2.2.2.2.2.2.2.2.2.2.2.2.2.2 cM_tape vM_taped cM_bitsOf cM_sizeOf cM_number := by
  obtain ⟨⟨f, hV, hC, hM⟩, hI2, hT, hP, hS⟩ := hI
  have hF : RF cT_present_kind cT_present_above cT_present_edge cT_present_pool cT_present_store cT_present_spot vT_present_basins vT_present_spring vT_present_hour vT_present_z cM_d := ⟨f, hV, hC, hM⟩
  have hn : f.n ≤ 10 := hV.1
  have hG : VG f := VG_of hV
  obtain rfl := hC.1
  obtain rfl := hC.2.1
  obtain rfl := hC.2.2.1
  have hh : f.hr ≤ 9999 := hV.2.2.2.1
  unfold f_X7_generous f_X8_generous
  rw [show cM_d (0 : Int32).toNatClampNeg = nI f.n from hM.1]
  rcases weighH hh hM x1 with ⟨k, hk1, hk, rfl, hl, e7, e8⟩ | ⟨e7, e8⟩ | ⟨e7, e8⟩
  · rw [bd_t e7, bd_t e8, br_t1 rfl, br_t1 (show (-1 : Int32) < 0 by decide)]
    by_cases h0 : f.n = 0
    · rw [br_t1 (show nI f.n = 0 by rw [h0]; rfl), br_t1 (show nI f.n = 0 by rw [h0]; rfl), bd_t (tell3 _), bd_t (finds3 _)]
      exact ⟨_, _, rfl, rfl, rfl, hF, hI2, RT_tell hT 3, hP, hS⟩
    rw [br_f1 (nI_ne 0 0 h0), br_f1 (nI_ne 0 0 h0)]
    obtain ⟨gg, hgg⟩ : ∃ gg : Nat → Nat, gg = fun b => cntN (fun o => o ≠ b ∧ ¬ nI ((f.setKd b 3).gt k o) ≤ nI (f.gt k o)) f.n := ⟨_, rfl⟩
    have hggb : ∀ b, nI (gg b) = nI (cntN (fun o => o ≠ b ∧ ¬ nI ((f.setKd b 3).gt k o) ≤ nI (f.gt k o)) f.n) := fun b => by rw [hgg]
    refine two_ex (fun u => u.1 = (bestI gg 0 f.n).1 ∧ u.2.2.2.2.2.2.2.2.2.2.2.2.2.2.2.2.2.2.2.2.2.2.2.2 = cT_told) (fun v => v.1 = (bestI gg 0 f.n).1 ∧ (∀ i, i < 64 → v.2.2.2.2.2.2.2.1 i = cM_d i) ∧ v.2.2.2.2.2.2.2.2.2.2.2.2.2.2.2 = cM_found) ?_ ?_ ?_
    · obtain ⟨tb, ts, th, tz, tk, ta, te, tp, tst, tsp, v1, v2, v3, v4, v5, v6, v7, w1, w2, w3, w4, w5, us, hU, hUv⟩ := usual_e hG hC (k := k) (by omega) vT_trial_basins vT_trial_spring vT_trial_hour vT_trial_z cT_trial_kind cT_trial_above cT_trial_edge cT_trial_pool cT_trial_store cT_trial_spot vT_flow_kept vT_flow_leaked vT_flow_ranOff vT_flow_uneven vT_flow_keptInAll vT_flow_leakedInAll vT_flow_ranOffInAll cT_flow_width cT_flow_goesOn cT_flow_comes cT_flow_keeps cT_flow_holds cT_usual
      rw [bd_t hU]
      dsimp only
      unfold f_X7_generous_L46
      refine lp_go3 f.n (fun i s => s.1 = (bestI gg 0 i).1 ∧ s.2.1 = (bestI gg 0 i).2 ∧ s.2.2.1 = nI (0 + i) ∧ s.2.2.2.2.2.2.2.2.2.2.2.2.2.2.2.2.2.2.2.2.2.2.2.2.2.1 = us ∧ s.2.2.2.2.2.2.2.2.2.2.2.2.2.2.2.2.2.2.2.2.2.2.2.2.2.2 = cT_told) ⟨rfl, rfl, rfl, rfl, rfl⟩ (FU_gt (by omega)) ?_
      rintro i ⟨y3, y4, y5, tb, ts, th, tz, tk, ta, te, tp, tst, tsp, v1, v2, v3, v4, v5, v6, v7, w1, w2, w3, w4, w5, uu, tt⟩ hi ⟨a1, a2, a3, a4, a5⟩ rc
      dsimp only at a1 a2 a3 a4 a5 ⊢
      subst a1 a2 a3 a4 a5
      unfold f_X7_generous_L46_b
      by_cases hx : i = f.n
      · left
        subst hx
        rw [br_t1 (show nI f.n ≤ nI (0 + f.n) from nI_le (by omega) (by omega))]
        exact ⟨_, rfl, rfl, rfl⟩
      · right
        have hi' : i < f.n := by omega
        have hi0 : 0 + i < f.n := by omega
        refine ⟨hi', ?_⟩
        obtain ⟨tb', ts', th', tz', tk', ta', te', tp', tst', tsp', v1', v2', v3', v4', v5', v6', v7', w1', w2', w3', w4', w5', hp, hpv⟩ := asKind_e hG hC hi0 (c := 3) (by decide) (k := k) (by omega) tb ts th tz tk ta te tp tst tsp v1 v2 v3 v4 v5 v6 v7 w1 w2 w3 w4 w5
        have hO := others_e (f := f) (g := f.setKd (0 + i) 3) (k := k) hn hi0 rfl hpv (fun o ho => (hC.2.2.2.2.1 o ho).2.2.2.2) hUv
        rw [← hggb] at hO
        rw [br_f1 (show ¬ nI f.n ≤ nI (0 + i) from nI_ge (by omega) (by omega)), bd_t (show f_X7_passAsKind (nI (0 + i)) (3 : Int32) (nI k) _ _ _ _ _ _ _ _ _ _ _ _ _ _ _ _ _ _ _ _ _ _ _ _ _ _ _ _ _ _ _ _ = _ from hp)]
        dsimp only
        rw [bd_t hO]
        by_cases q : nI (gg (0 + i)) ≤ (bestI gg 0 i).2
        · have hq := bestI_t q
          rw [br_t1 q]
          exact ⟨_, ⟨by rw [hq], by rw [hq], nI_1 _, rfl, rfl⟩, rfl⟩
        · have hq := bestI_f q
          rw [br_f1 q]
          exact ⟨_, ⟨by rw [hq], by rw [hq], nI_1 _, rfl, rfl⟩, rfl⟩
    · obtain ⟨vl, vk, vo, va, vb, vc, d1, F1, c1, g1, h1, o1, gs1, gn1, hK, hKd, hKv⟩ := keepGets_e hG hM (k := k) (by omega) vM_leaked vM_keptAll vM_offAll vM_triedOff vM_triedLeaked vM_triedKept cM_f cM_came cM_got cM_held cM_off cM_gets cM_gotNow
      rw [bd_t hK]
      dsimp only
      unfold f_X8_generous_L44
      refine lp_go3 f.n (fun i s => s.1 = (bestI gg 0 i).1 ∧ s.2.1 = (bestI gg 0 i).2 ∧ s.2.2.1 = nI (0 + i) ∧ (∀ j, j < 64 → s.2.2.2.2.2.2.2.2.2.1 j = cM_d j) ∧ s.2.2.2.2.2.2.2.2.2.2.2.2.2.2.2.2.1 = gn1 ∧ s.2.2.2.2.2.2.2.2.2.2.2.2.2.2.2.2.2 = cM_found) ⟨rfl, rfl, rfl, hKd, rfl, rfl⟩ (FU_gt (by omega)) ?_
      rintro i ⟨y3, y4, y5, vl, vk, vo, va, vb, vc, d1, F1, c1, g1, h1, o1, gs1, gn, fo⟩ hi ⟨a1, a2, a3, a4, a5, a6⟩ rc
      dsimp only at a1 a2 a3 a4 a5 a6 ⊢
      subst a1 a2 a3 a5 a6
      unfold f_X8_generous_L44_b
      have hM1 : MF f d1 := MF_cong hn hM a4
      rw [show d1 (0 : Int32).toNatClampNeg = nI f.n from hM1.1]
      by_cases hx : i = f.n
      · left
        subst hx
        rw [br_t1 (show nI f.n ≤ nI (0 + f.n) from nI_le (by omega) (by omega))]
        exact ⟨_, rfl, rfl, a4, rfl⟩
      · right
        have hi' : i < f.n := by omega
        have hi0 : 0 + i < f.n := by omega
        refine ⟨hi', ?_⟩
        have hM2 := MF_Kd hM1 hn hi0 3
        obtain ⟨vl', vk', vo', d2, F', c, g, h, o, gs, hT2, hd2, hg2⟩ := tries_e (VG_Kd hG (0 + i) (v := 3) (by decide)) hM2 (k := k) (by omega) vl vk vo va vb vc F1 c1 g1 h1 o1 gs1
        have hd3 := back_d hn hM1 hd2 rfl (hM1.2.2.2.2.1 _ hi0).1.symm
        have hM3 := MF_cong hn hM1 hd3
        rw [br_f1 (show ¬ nI f.n ≤ nI (0 + i) from nI_ge (by omega) (by omega)), bd_t (its_k hM1 hn hi0).1, bd_t (show f_X8_sets (nI (0 + i)) (0 : Int32) (3 : Int32) d1 = _ from sets_e (c := 0) (by omega) _ _)]
        rw [bd_t (show f_X8_tries (nI k) _ _ _ _ _ _ (upd d1 (4 + 5 * (0 + i) + 0) 3) _ _ _ _ _ _ = _ from hT2)]
        dsimp only
        rw [bd_t (show f_X8_sets (nI (0 + i)) (0 : Int32) _ _ = _ from sets_e (c := 0) (by omega) _ _), bd_t (show f_X8_getting 1 (upd d2 (4 + 5 * (0 + i) + 0) (nI (f.kd (0 + i)))) gs gn = _ from getting1_e hn hM3.1 gs gn)]
        have hS : setI (fun b => ¬ gs b ≤ gn b) f.n = setI (fun o => ¬ nI ((f.setKd (0 + i) 3).gt k o) ≤ nI (f.gt k o)) f.n := setI_cong (fun o ho => by rw [hKv o ho, hg2 o ho])
        have hO := ones_e (setI (fun b => ¬ gs b ≤ gn b) f.n &&& (btI (0 + i) ^^^ -1))
        rw [hS, ones_S hn hi0, ← hggb, ← hS] at hO
        rw [bd_t (show f_X8_ones (setI (fun b => ¬ gs b ≤ gn b) f.n &&& (((1 : Int32) <<< (nI (0 + i) &&& 31)) ^^^ -1)) = _ from hO)]
        have hd4 : ∀ j, j < 64 → upd d2 (4 + 5 * (0 + i) + 0) (nI (f.kd (0 + i))) j = cM_d j := fun j hj => (hd3 j hj).trans (a4 j hj)
        by_cases q : nI (gg (0 + i)) ≤ (bestI gg 0 i).2
        · have hq := bestI_t q
          rw [br_t1 q, br_t1 q]
          refine ⟨_, ?_, rfl⟩
          exact ⟨by rw [hq], by rw [hq], nI_1 _, hd4, rfl, rfl⟩
        · have hq := bestI_f q
          rw [br_f1 q, br_f1 q]
          refine ⟨_, ?_, rfl⟩
          exact ⟨by rw [hq], by rw [hq], nI_1 _, hd4, rfl, rfl⟩
    · rintro u v ⟨h1, h2⟩ ⟨h3, h4, h5⟩
      rw [h2, h5]
      exact ⟨h1.trans h3.symm, ⟨f, hV, hC, MF_cong hn hM h4⟩, hI2, hT, hP, hS⟩
  · rw [bd_t e7, bd_t e8, br_f1 (show ¬ (-1000001 : Int32) = 0 by decide), br_f1 (show ¬ (0 : Int32) < 0 by decide), bd_t (tell0 _), bd_t (finds0 _)]
    exact ⟨_, _, rfl, rfl, rfl, hF, hI2, RT_tell hT 0, hP, hS⟩
  · rw [bd_t e7, bd_t e8, br_f1 (show ¬ (-1000005 : Int32) = 0 by decide), br_f1 (show ¬ (4 : Int32) < 0 by decide), bd_t (tell4 _), bd_t (finds4 _)]
    exact ⟨_, _, rfl, rfl, rfl, hF, hI2, RT_tell hT 4, hP, hS⟩
