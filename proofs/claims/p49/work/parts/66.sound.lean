/-! ===== what is sound: cups, pools, stores ===== -/
theorem sumI_add (g h : Nat → Int32) : ∀ n, sumI (fun b => g b + h b) n = sumI g n + sumI h n
  | 0 => rfl
  | n + 1 => by
    rw [sumI, sumI, sumI, sumI_add g h n]
    grind
theorem it1_po (f : Fo) : (f.it 1).po = fun b => f.po b + f.hd b := rfl
theorem it1_st (f : Fo) : (f.it 1).st = fun b => f.st b + nI (f.kp b) := rfl
theorem kpT_1 (f : Fo) : f.kpT 1 = f.kpS := Nat.zero_add _
theorem P_isSound {f : Fo} {vT_pictured : Int32} {vT_present_basins : Int32} {vT_present_spring : Int32} {vT_present_hour : Int32} {vT_present_z : Int32} {cT_present_edge : Nat → Int32} {cT_present_pool : Nat → Int32} {vT_tape_size : Int32} {cT_present_spot : Nat → Int32} {cT_told : Nat → Int32} {cT_present_store : Nat → Int32} {vT_flow_kept : Int32} {vT_flow_leaked : Int32} {vT_flow_ranOff : Int32} {vT_flow_uneven : Int32} {vT_flow_keptInAll : Int32} {vT_flow_leakedInAll : Int32} {vT_flow_ranOffInAll : Int32} {cT_flow_width : Nat → Int32} {cT_present_above : Nat → Int32} {cT_flow_goesOn : Nat → Int32} {cT_flow_comes : Nat → Int32} {cT_present_kind : Nat → Int32} {cT_flow_keeps : Nat → Int32} {cT_flow_holds : Nat → Int32} {vT_picture_basins : Int32} {vT_picture_spring : Int32} {vT_picture_hour : Int32} {vT_picture_z : Int32} {cT_picture_kind : Nat → Int32} {cT_picture_above : Nat → Int32} {cT_picture_edge : Nat → Int32} {cT_picture_pool : Nat → Int32} {cT_picture_store : Nat → Int32} {cT_picture_spot : Nat → Int32} (hV : VF f) (hC : CF f cT_present_kind cT_present_above cT_present_edge cT_present_pool cT_present_store cT_present_spot vT_present_basins vT_present_spring vT_present_hour vT_present_z) (hl : f.hr + 1 ≤ 9999) : ∃ u : Int32 × Int32 × Int32 × Int32 × Int32 × Int32 × (Nat → Int32) × (Nat → Int32) × (Nat → Int32) × (Nat → Int32) × (Nat → Int32) × Int32 × Int32 × Int32 × Int32 × Int32 × Int32 × Int32 × (Nat → Int32) × (Nat → Int32) × (Nat → Int32) × (Nat → Int32) × (Nat → Int32) × (Nat → Int32) × (Nat → Int32) × Int32 × Int32 × Int32 × Int32 × (Nat → Int32) × (Nat → Int32) × (Nat → Int32) × (Nat → Int32) × (Nat → Int32) × (Nat → Int32), f_L_isSound  vT_pictured vT_present_basins vT_present_spring vT_present_hour vT_present_z cT_present_edge cT_present_pool vT_tape_size cT_present_spot cT_told cT_present_store vT_flow_kept vT_flow_leaked vT_flow_ranOff vT_flow_uneven vT_flow_keptInAll vT_flow_leakedInAll vT_flow_ranOffInAll cT_flow_width cT_present_above cT_flow_goesOn cT_flow_comes cT_present_kind cT_flow_keeps cT_flow_holds vT_picture_basins vT_picture_spring vT_picture_hour vT_picture_z cT_picture_kind cT_picture_above cT_picture_edge cT_picture_pool cT_picture_store cT_picture_spot = some u ∧ (u.1 = 1 ∧ CF (f) u.2.2.2.2.2.2.2.2.2.2.2.2.2.2.2.2.2.2.2.2.2.2.1 u.2.2.2.2.2.2.2.2.2.2.2.2.2.2.2.2.2.2.2.1 u.2.2.2.2.2.2.1 u.2.2.2.2.2.2.2.1 u.2.2.2.2.2.2.2.2.2.2.1 u.2.2.2.2.2.2.2.2.1 u.2.2.1 u.2.2.2.1 u.2.2.2.2.1 u.2.2.2.2.2.1)
  := by
  have hn : f.n ≤ 10 := hV.1
  have hG := VG_of hV
  have b1 := kpS_le hG
  unfold f_L_isSound
  refine bd_ex _ (S_count1 hV hC) (fun u1 h1 => ?_)
  refine bd_ex _ (S_now1 hV hC) (fun u2 h2 => ?_)
  by_cases h0 : f.n = 0
  · rw [br_t1 (by rw [h1, h0]; rfl)]
    have z1 : f.roS = 0 := by unfold Fo.roS; rw [h0]; rfl
    have z2 : f.lkS = 0 := by unfold Fo.lkS; rw [h0]; rfl
    have z3 : f.kpS = 0 := by unfold Fo.kpS; rw [h0]; rfl
    refine bd_ex _ (S_now4 hV hC) (fun u3 h3 => ?_)
    rw [br_t1 (by rw [h3, z1]; rfl)]
    refine bd_ex _ (S_now5 hV hC) (fun u4 h4 => ?_)
    rw [br_t1 (by rw [h4, z2]; rfl)]
    refine bd_ex _ (S_now6 hV hC) (fun u5 h5 => ?_)
    rw [br_t1 (by rw [h5, z3]; rfl)]
    exact ⟨_, rfl, rfl, hC⟩
  rw [br_f1 (by rw [h1]; exact nI_ne 0 0 h0)]
  refine bd_ex _ (S_now3 hV hC) (fun u3 h3 => ?_)
  refine bd_ex _ (S_now2 hV hC) (fun u4 h4 => ?_)
  refine bd_ex _ (S_now4 hV hC) (fun u5 h5 => ?_)
  refine bd_ex _ (S_now5 hV hC) (fun u6 h6 => ?_)
  refine bd_ex _ (S_now6 hV hC) (fun u7 h7 => ?_)
  unfold f_L_isSound_L88
  refine lp_go3 f.n (fun i s => s.1 = nI f.n ∧ s.2.1 = nI f.sg ∧ s.2.2.1 = nI (sumN f.po f.n) ∧ s.2.2.2.1 = sumI f.st f.n ∧ s.2.2.2.2.1 = nI f.roS ∧ s.2.2.2.2.2.1 = nI f.lkS ∧ s.2.2.2.2.2.2.1 = nI f.kpS ∧ s.2.2.2.2.2.2.2.1 = nI (sumN f.kp i) ∧ s.2.2.2.2.2.2.2.2.1 = nI i ∧ CF (f) s.2.2.2.2.2.2.2.2.2.2.2.2.2.2.2.2.2.2.2.2.2.2.2.2.2.2.2.2.2.2.1 s.2.2.2.2.2.2.2.2.2.2.2.2.2.2.2.2.2.2.2.2.2.2.2.2.2.2.2.1 s.2.2.2.2.2.2.2.2.2.2.2.2.2.2.1 s.2.2.2.2.2.2.2.2.2.2.2.2.2.2.2.1 s.2.2.2.2.2.2.2.2.2.2.2.2.2.2.2.2.2.2.1 s.2.2.2.2.2.2.2.2.2.2.2.2.2.2.2.2.1 s.2.2.2.2.2.2.2.2.2.2.1 s.2.2.2.2.2.2.2.2.2.2.2.1 s.2.2.2.2.2.2.2.2.2.2.2.2.1 s.2.2.2.2.2.2.2.2.2.2.2.2.2.1) ⟨h1, h2, h3, h4, h5, h6, h7, rfl, rfl, hC⟩ (FU_gt (by omega)) ?_
  clear h1 h2 h3 h4 h5 h6 h7
  rintro i s hi ⟨a1, a2, a3, a4, a5, a6, a7, a8, a9, a10⟩ rc
  rw [a1, a2, a3, a4, a5, a6, a7, a8, a9]
  unfold f_L_isSound_L88_b
  by_cases hx : i = f.n
  · left
    subst hx
    rw [br_t1 (nI_le (Nat.le_refl _) (by omega))]
    unfold f_L_isSound_J182
    rw [br_t1 (show nI (sumN f.kp f.n) = nI f.kpS from rfl)]
    refine bd_ex _ (S_of5 (b := 0) hV a10 (by omega)) (fun u1 h1 => ?_)
    rw [br_t1 (by rw [h1, cm_0])]
    refine bd_ex _ (S_image hV a10) (fun u2 h2 => ?_)
    obtain ⟨h21, h22, h23⟩ := h2
    rw [br_t1 h21]
    refine bd_ex _ (S_hours (k := 1) hV a10 (by decide) (by decide) hl) (fun u3 h3 => ?_)
    obtain ⟨h31, h32⟩ := h3
    have hV1 := VF_it hV hl
    rw [br_t1 (by rw [h31, kpT_1])]
    refine bd_ex _ (S_now3 hV1 h32) (fun u4 h4 => ?_)
    have e1 : sumN (f.it 1).po (f.it 1).n = sumN f.po f.n + f.hdS := by
      rw [(it_same f 1).1, it1_po, sumN_add]; rfl
    rw [show u4.1 = nI (sumN f.po f.n + f.hdS) from by rw [h4, e1], pk_sub (Nat.le_add_right _ _), Nat.add_sub_cancel_left, nm_q]
    have hall := flow_all hG h0
    have hsg : f.sg ≤ 99999 := hG.2.2
    rw [br_f1 (n0_nlt _ (by omega))]
    refine bd_ex _ (S_now2 hV1 h32) (fun u5 h5 => ?_)
    have e2 : sumI (f.it 1).st (f.it 1).n = sumI f.st f.n + nI f.kpS := by
      rw [(it_same f 1).1, it1_st, sumI_add, sumI_nI]; rfl
    rw [br_t1 (by rw [h5, e2]), nI_add, nI_add, nI_add, br_t1 (congrArg nI hall)]
    refine bd_ex _ (S_undo h22 hV h23) (fun u6 h6 => ?_)
    obtain ⟨h61, h62⟩ := h6
    rw [br_f1 (by rw [h61]; exact n0_nlt _ (by have := hV.2.2.2.1; omega))]
    refine bd_ex _ (S_now2 hV h62) (fun u7 h7 => ?_)
    rw [br_t1 h7]
    refine bd_ex _ (S_now3 hV h62) (fun u8 h8 => ?_)
    rw [br_t1 h8]
    exact ⟨_, rfl, rfl, h62⟩
  · right
    have hi' : i < f.n := by omega
    have c1 := cm_5 hG hi'
    have c2 : f.kp i ≤ f.cm i := Nat.le_trans (kKeep_le _ _) (Nat.sub_le _ _)
    obtain ⟨-, -, -, hpo, hab⟩ := hV.2.1 i hi'
    refine ⟨hi', ?_⟩
    rw [br_f1 (nI_ge hi' (by omega))]
    obtain ⟨u1, h11, h12⟩ := S_of6 (b := i) hV a10 hi'
    rw [bd_t h11, h12, nI_add, nm_q]
    obtain ⟨u2, h21, h22⟩ := S_of6 (b := i) hV a10 hi'
    rw [bd_t h21]
    obtain ⟨u3, h31, h32⟩ := S_of5 (b := i) hV a10 hi'
    rw [bd_t h31, h22, h32, br_f1 (nI_nlt c2 (by omega))]
    obtain ⟨u4, h41, h42⟩ := S_of3 (b := i) hV a10 hi'
    rw [bd_t h41, h42, br_f1 (show ¬ (30 : Int32) < nI (f.po i) from nI_nlt (a := 30) hpo (by decide))]
    by_cases h00 : i = 0
    · rw [br_t1 (show nI i ≤ 0 by rw [h00]; decide)]
      unfold f_L_isSound_J154
      obtain ⟨u6, h61, h62⟩ := S_under (b := i) (w := 0) hV a10 hi' (by decide)
      rw [bd_t (show f_X7_under (nI i) (0 : Int32) _ _ _ = _ from h61)]
      obtain ⟨u7, h71, h72⟩ := S_under (b := i) (w := 1) hV a10 hi' (by decide)
      rw [bd_t (show f_X7_under (nI i) (1 : Int32) _ _ _ = _ from h71), br_t1 (and_not_0 (fun k hk q => by
        obtain ⟨z1, z2, z3⟩ := h62.1 rfl k hk q
        exact h72.2 k z1 z2 z3))]
      refine ⟨_, ?_, rfl⟩
      exact ⟨rfl, rfl, rfl, rfl, rfl, rfl, rfl, rfl, nI_1 i, a10⟩
    · rw [br_f1 (nI_nle (by omega) (by omega))]
      have hai := hab (by omega)
      obtain ⟨u5, h51, h52⟩ := S_of1 (b := i) hV a10 hi'
      rw [abI_s _ h00] at h52
      rw [bd_t h51, h52, br_f1 (nI_ge hai (by omega))]
      unfold f_L_isSound_J154
      obtain ⟨u6, h61, h62⟩ := S_under (b := i) (w := 0) hV a10 hi' (by decide)
      rw [bd_t (show f_X7_under (nI i) (0 : Int32) _ _ _ = _ from h61)]
      obtain ⟨u7, h71, h72⟩ := S_under (b := i) (w := 1) hV a10 hi' (by decide)
      rw [bd_t (show f_X7_under (nI i) (1 : Int32) _ _ _ = _ from h71), br_t1 (and_not_0 (fun k hk q => by
        obtain ⟨z1, z2, z3⟩ := h62.1 rfl k hk q
        exact h72.2 k z1 z2 z3))]
      refine ⟨_, ?_, rfl⟩
      exact ⟨rfl, rfl, rfl, rfl, rfl, rfl, rfl, rfl, nI_1 i, a10⟩
