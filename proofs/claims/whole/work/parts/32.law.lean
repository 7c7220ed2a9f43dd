/-! ===== cases law, deal ===== -/
/-- kinds: the first i are c, the others as told -/
def Fo.kdP (f : Fo) (K : Nat → Nat) (c i : Nat) : Fo := (f.n, fun b => if b < i then c else K b, f.ab, f.ed, f.po, f.st, f.sp, f.sg, f.hr, f.z)
def Fo.allK (f : Fo) (c : Nat) : Fo := (f.n, fun _ => c, f.ab, f.ed, f.po, f.st, f.sp, f.sg, f.hr, f.z)
theorem VG_allK {f : Fo} (h : VG f) {c : Nat} (hc : c ≤ 6) : VG (f.allK c) := by
  refine ⟨h.1, fun j hj => ?_, h.2.2⟩
  obtain ⟨h1, h2, h3, h4, h5⟩ := h.2.1 j hj
  exact ⟨hc, h2, h3, h4, h5⟩
theorem CF_kdP_s {f : Fo} {K : Nat → Nat} {c i : Nat} {kind above edge pool store spot : Nat → Int32} {basins spring hour z : Int32} (h : CF (f.kdP K c i) kind above edge pool store spot basins spring hour z) : CF (f.kdP K c (i + 1)) (upd kind i (nI c)) above edge pool store spot basins spring hour z := by
  obtain ⟨h0, h1, h2, h3, h4, h5⟩ := h
  refine ⟨h0, h1, h2, h3, fun j hj => ?_, h5⟩
  obtain ⟨a1, a2, a3, a4, a5⟩ := h4 j hj
  refine ⟨?_, a2, a3, a4, a5⟩
  show upd kind i (nI c) j = nI (if j < i + 1 then c else K j)
  by_cases e : j = i
  · rw [e, pk_us, if_pos (by omega)]
  · rw [pk_un e, a1]
    show nI (if j < i then c else K j) = _
    by_cases q : j < i
    · rw [if_pos q, if_pos (by omega)]
    · rw [if_neg q, if_neg (by omega)]
theorem CF_kdP_n {f : Fo} {K : Nat → Nat} {c : Nat} {kind above edge pool store spot : Nat → Int32} {basins spring hour z : Int32} (h : CF (f.kdP K c f.n) kind above edge pool store spot basins spring hour z) : CF (f.allK c) kind above edge pool store spot basins spring hour z := by
  obtain ⟨h0, h1, h2, h3, h4, h5⟩ := h
  refine ⟨h0, h1, h2, h3, fun j hj => ?_, h5⟩
  obtain ⟨a1, a2, a3, a4, a5⟩ := h4 j hj
  exact ⟨a1.trans (congrArg nI (if_pos hj)), a2, a3, a4, a5⟩
theorem MF_kdP_s {f : Fo} (hn : f.n ≤ 10) {K : Nat → Nat} {c i : Nat} (hi : i < f.n) {d : Nat → Int32} (h : MF (f.kdP K c i) d) : MF (f.kdP K c (i + 1)) (upd d (4 + 5 * i + 0) (nI c)) := by
  have h2 := MF_Kd h hn hi c
  refine MF_eq (f := (f.kdP K c i).setKd i c) (g := f.kdP K c (i + 1)) h2 rfl rfl rfl rfl (fun _ _ => rfl) (fun b hb => ⟨?_, fun _ => rfl, rfl, rfl, rfl⟩)
  show (if b < i + 1 then c else K b) = fset (fun b => if b < i then c else K b) i c b
  by_cases e : b = i
  · rw [e, fset_s, if_pos (by omega)]
  · rw [fset_n e]
    by_cases q : b < i
    · rw [if_pos q, if_pos (by omega)]
    · rw [if_neg q, if_neg (by omega)]
theorem MF_kdP_n {f : Fo} {K : Nat → Nat} {c : Nat} {d : Nat → Int32} (h : MF (f.kdP K c f.n) d) : MF (f.allK c) d :=
  MF_eq (f := f.kdP K c f.n) (g := f.allK c) h rfl rfl rfl rfl (fun _ _ => rfl) (fun b hb => ⟨(if_pos hb).symm, fun _ => rfl, rfl, rfl, rfl⟩)
theorem lp_in {σ α τ : Type} {step : (σ → Option α) → σ → Option α} {s0 : σ} {rc : τ → Option α} {J : τ → Prop} (n : Nat) (I : Nat → σ → Prop) (h0 : I 0 s0) (hn : n < FU)
    (h : ∀ i s, i ≤ n → I i s → ∀ rd, (∃ s', J s' ∧ step rd s = rc s') ∨ (i < n ∧ ∃ s', I (i + 1) s' ∧ step rd s = rd s')) : ∃ s', J s' ∧ lp step FU s0 = rc s' :=
  lp_go2 step I n (fun o => ∃ s', J s' ∧ o = rc s') h s0 h0 hn
theorem L_law (x1 : Int32) (cT_present_kind : Nat → Int32) (cT_present_above : Nat → Int32) (cT_present_edge : Nat → Int32) (cT_present_pool : Nat → Int32) (cT_present_store : Nat → Int32) (cT_present_spot : Nat → Int32) (vT_present_basins : Int32) (vT_present_spring : Int32) (vT_present_hour : Int32) (vT_present_z : Int32) (vT_pictured : Int32) (cT_picture_kind : Nat → Int32) (cT_picture_above : Nat → Int32) (cT_picture_edge : Nat → Int32) (cT_picture_pool : Nat → Int32) (cT_picture_store : Nat → Int32) (cT_picture_spot : Nat → Int32) (vT_picture_basins : Int32) (vT_picture_spring : Int32) (vT_picture_hour : Int32) (vT_picture_z : Int32) (cT_told : Nat → Int32) (cT_tape_bytes : Nat → Int32) (vT_tape_size : Int32) (vT_sheets_bits : Nat → Int32) (vT_sheets_size : Nat → Int32) (cT_sheets_numbers : Nat → Nat → Int32) (cM_d : Nat → Int32) (vM_isKept : Int32) (cM_kept : Nat → Int32) (cM_found : Nat → Int32) (cM_tape : Nat → Int32) (vM_taped : Int32) (cM_bitsOf : Nat → Int32) (cM_sizeOf : Nat → Int32) (cM_number : Nat → Int32) (vT_trial_basins : Int32) (vT_trial_spring : Int32) (vT_trial_hour : Int32) (vT_trial_z : Int32) (cT_trial_kind : Nat → Int32) (cT_trial_above : Nat → Int32) (cT_trial_edge : Nat → Int32) (cT_trial_pool : Nat → Int32) (cT_trial_store : Nat → Int32) (cT_trial_spot : Nat → Int32) (vT_flow_kept : Int32) (vT_flow_leaked : Int32) (vT_flow_ranOff : Int32) (vT_flow_uneven : Int32) (vT_flow_keptInAll : Int32) (vT_flow_leakedInAll : Int32) (vT_flow_ranOffInAll : Int32) (cT_flow_width : Nat → Int32) (cT_flow_goesOn : Nat → Int32) (cT_flow_comes : Nat → Int32) (cT_flow_keeps : Nat → Int32) (cT_flow_holds : Nat → Int32) (vM_leaked : Int32) (vM_keptAll : Int32) (vM_offAll : Int32) (vM_triedOff : Int32) (vM_triedLeaked : Int32) (vM_triedKept : Int32) (cM_e : Nat → Int32) (cM_f : Nat → Int32) (cM_came : Nat → Int32) (cM_got : Nat → Int32) (cM_held : Nat → Int32) (cM_off : Nat → Int32) (cM_gets : Nat → Int32) (hI : Inv cT_present_kind cT_present_above cT_present_edge cT_present_pool cT_present_store cT_present_spot vT_present_basins vT_present_spring vT_present_hour vT_present_z vT_pictured cT_picture_kind cT_picture_above cT_picture_edge cT_picture_pool cT_picture_store cT_picture_spot vT_picture_basins vT_picture_spring vT_picture_hour vT_picture_z cT_told cT_tape_bytes vT_tape_size vT_sheets_bits vT_sheets_size cT_sheets_numbers cM_d vM_isKept cM_kept cM_found cM_tape vM_taped cM_bitsOf cM_sizeOf cM_number) : ∃ (u : Int32 × Int32 × Int32 × Int32 × Int32 × (Nat → Int32) × (Nat → Int32) × (Nat → Int32) × (Nat → Int32) × (Nat → Int32) × (Nat → Int32) × (Nat → Int32) × Int32 × Int32 × Int32 × Int32 × Int32 × Int32 × Int32 × (Nat → Int32) × (Nat → Int32) × (Nat → Int32) × (Nat → Int32) × (Nat → Int32)) (v : Int32 × Int32 × Int32 × Int32 × Int32 × Int32 × Int32 × (Nat → Int32) × (Nat → Int32) × (Nat → Int32) × (Nat → Int32) × (Nat → Int32) × (Nat → Int32) × (Nat → Int32) × (Nat → Int32) × (Nat → Int32)), f_X7_law x1 vT_present_basins vT_present_spring vT_present_hour vT_present_z vT_trial_basins vT_trial_spring vT_trial_hour vT_trial_z cT_present_kind cT_trial_kind cT_present_above cT_trial_above cT_present_edge cT_trial_edge cT_present_pool cT_trial_pool cT_present_store cT_trial_store cT_present_spot cT_trial_spot cT_told vT_flow_kept vT_flow_leaked vT_flow_ranOff vT_flow_uneven vT_flow_keptInAll vT_flow_leakedInAll vT_flow_ranOffInAll cT_flow_width cT_flow_goesOn cT_flow_comes cT_flow_keeps cT_flow_holds = some u ∧ f_X8_law x1 vM_leaked vM_keptAll vM_offAll vM_triedOff vM_triedLeaked vM_triedKept cM_d cM_e cM_found cM_f cM_came cM_got cM_held cM_off cM_gets = some v ∧ u.1 = v.1 ∧ Inv cT_present_kind cT_present_above cT_present_edge cT_present_pool cT_present_store cT_present_spot vT_present_basins vT_present_spring vT_present_hour vT_present_z vT_pictured cT_picture_kind cT_picture_above cT_picture_edge cT_picture_pool cT_picture_store cT_picture_spot vT_picture_basins vT_picture_spring vT_picture_hour vT_picture_z u.2.2.2.2.2.2.2.2.2.2.2.1 cT_tape_bytes vT_tape_size vT_sheets_bits vT_sheets_size cT_sheets_numbers v.2.2.2.2.2.2.2.1 vM_isKept cM_kept v.2.2.2.2.2.2.2.2.2.1 cM_tape vM_taped cM_bitsOf cM_sizeOf cM_number := by
  obtain ⟨⟨f, hV, hC, hM⟩, hI2, hT, hP, hS⟩ := hI
  have hF : RF cT_present_kind cT_present_above cT_present_edge cT_present_pool cT_present_store cT_present_spot vT_present_basins vT_present_spring vT_present_hour vT_present_z cM_d := ⟨f, hV, hC, hM⟩
  have hn : f.n ≤ 10 := hV.1
  have hG : VG f := VG_of hV
  obtain rfl := hC.1
  obtain rfl := hC.2.1
  obtain rfl := hC.2.2.1
  have hh : f.hr ≤ 9999 := hV.2.2.2.1
  unfold f_X7_law f_X8_law
  rcases weighH hh hM x1 with ⟨k, hk1, hk, rfl, hl, e7, e8⟩ | ⟨e7, e8⟩ | ⟨e7, e8⟩
  · rw [bd_t e7, bd_t e8, br_t1 rfl, br_t1 (show (-1 : Int32) < 0 by decide)]
    refine two_ex (fun u => u.1 = (bestI (fun c => (f.allK c).kpT k) 0 7).1 ∧ u.2.2.2.2.2.2.2.2.2.2.2.1 = cT_told) (fun v => v.1 = (bestI (fun c => (f.allK c).kpT k) 0 7).1 ∧ (∀ i, i < 64 → v.2.2.2.2.2.2.2.1 i = cM_d i) ∧ v.2.2.2.2.2.2.2.2.2.1 = cM_found) ?_ ?_ ?_
    · unfold f_X7_law_L24
      refine lp_go3 7 (fun i s => s.1 = (bestI (fun c => (f.allK c).kpT k) 0 i).1 ∧ s.2.1 = (bestI (fun c => (f.allK c).kpT k) 0 i).2 ∧ s.2.2.1 = nI (0 + i) ∧ s.2.2.2.2.2.2.2.2.2.2.2.2.2.1 = cT_told) ⟨rfl, rfl, rfl, rfl⟩ (FU_gt (by decide)) ?_
      rintro i ⟨y3, y4, y5, tb, ts, th, tz, tk, ta, te, tp, tst, tsp, tt, v1, v2, v3, v4, v5, v6, v7, w1, w2, w3, w4, w5⟩ hi ⟨a1, a2, a3, a4⟩ rc
      dsimp only at a1 a2 a3 a4 ⊢
      subst a1 a2 a3 a4
      unfold f_X7_law_L24_b
      by_cases hx : i = 7
      · left
        subst hx
        rw [br_t1 (by decide)]
        exact ⟨_, rfl, rfl, rfl⟩
      · right
        refine ⟨by omega, ?_⟩
        obtain ⟨tk', ta', te', tp', ts', tt', hSt, hCt⟩ := start_e hn hC tb ts th tz tk ta te tp tst tsp
        rw [br_f1 (show ¬ (6 : Int32) < nI (0 + i) from nI_nlt (a := 6) (by omega) (by omega)), bd_t hSt]
        dsimp only
        unfold f_X7_law_L38
        refine lp_in f.n (fun j s => s.1 = (bestI (fun c => (f.allK c).kpT k) 0 i).1 ∧ s.2.1 = (bestI (fun c => (f.allK c).kpT k) 0 i).2 ∧ s.2.2.1 = nI (0 + i) ∧ s.2.2.2.1 = nI j ∧ CF (f.kdP f.kd (0 + i) j) s.2.2.2.2.2.2.2.2.1 s.2.2.2.2.2.2.2.2.2.1 s.2.2.2.2.2.2.2.2.2.2.1 s.2.2.2.2.2.2.2.2.2.2.2.1 s.2.2.2.2.2.2.2.2.2.2.2.2.1 s.2.2.2.2.2.2.2.2.2.2.2.2.2.1 s.2.2.2.2.1 s.2.2.2.2.2.1 s.2.2.2.2.2.2.1 s.2.2.2.2.2.2.2.1 ∧ s.2.2.2.2.2.2.2.2.2.2.2.2.2.2.1 = tt) ⟨rfl, rfl, rfl, rfl, hCt, rfl⟩ (FU_gt (by omega)) ?_
        rintro j ⟨y3, y4, y5, y6, tb, ts, th, tz, tk, ta, te, tp, tst, tsp, t2, v1, v2, v3, v4, v5, v6, v7, w1, w2, w3, w4, w5⟩ hj ⟨b1, b2, b3, b4, b5, b6⟩ rd
        dsimp only at b1 b2 b3 b4 b5 b6 ⊢
        subst b1 b2 b3 b4 b6
        unfold f_X7_law_L38_b
        have hbb : tb = nI f.n := b5.1
        by_cases hjn : j = f.n
        · left
          subst hjn
          rw [br_t1 (show tb ≤ nI f.n by rw [hbb]; exact nI_le (Nat.le_refl _) (by omega))]
          unfold f_X7_law_J68
          obtain ⟨vk', vl', vr', vu', hr', w', g', c', k', p', h', s', hp, -, -⟩ := pass_c (VG_allK hG (c := 0 + i) (by omega)) (CF_kdP_n b5) (k := k) (by omega) v1 v2 v3 v4 v5 v6 v7 w1 w2 w3 w4 w5
          rw [bd_t hp]
          dsimp only
          by_cases q : nI ((f.allK (0 + i)).kpT k) ≤ (bestI (fun c => (f.allK c).kpT k) 0 i).2
          · have hq := bestI_t (g := fun c => (f.allK c).kpT k) q
            rw [br_t1 q]
            refine ⟨_, ?_, rfl⟩
            exact ⟨by rw [hq], by rw [hq], nI_1 _, rfl⟩
          · have hq := bestI_f (g := fun c => (f.allK c).kpT k) q
            rw [br_f1 q]
            refine ⟨_, ?_, rfl⟩
            exact ⟨by rw [hq], by rw [hq], nI_1 _, rfl⟩
        · right
          have hj' : j < f.n := by omega
          refine ⟨hj', ?_⟩
          rw [br_f1 (show ¬ tb ≤ nI j by rw [hbb]; exact nI_ge hj' (by omega)), gd_t (vp_in_nI (by omega) (by decide)), nI_clamp (by omega)]
          refine ⟨_, ?_, rfl⟩
          exact ⟨rfl, rfl, rfl, nI_1 _, CF_kdP_s b5, rfl⟩
    · obtain ⟨F0, hF0, hF1⟩ := copies_e cM_d cM_e
      rw [bd_t hF0]
      unfold f_X8_law_L35
      refine lp_go3 7 (fun i s => s.1 = (bestI (fun c => (f.allK c).kpT k) 0 i).1 ∧ s.2.1 = (bestI (fun c => (f.allK c).kpT k) 0 i).2 ∧ s.2.2.1 = nI (0 + i) ∧ (∃ K, MF (f.kdP K 0 0) s.2.2.2.2.2.2.2.2.2.1) ∧ s.2.2.2.2.2.2.2.2.2.2.1 = F0 ∧ s.2.2.2.2.2.2.2.2.2.2.2.1 = cM_found) ⟨rfl, rfl, rfl, ⟨f.kd, hM⟩, rfl, rfl⟩ (FU_gt (by decide)) ?_
      rintro i ⟨y3, y4, y5, vl, vk, vo, va, vb, vc, d1, e1, fo, f1, c1, g1, h1, o1, s1⟩ hi ⟨a1, a2, a3, ⟨K, a4⟩, a5, a6⟩ rc
      dsimp only at a1 a2 a3 a4 a5 a6 ⊢
      subst a1 a2 a3 a5 a6
      unfold f_X8_law_L35_b
      by_cases hx : i = 7
      · left
        subst hx
        unfold f_X8_law_J118
        obtain ⟨D, hD, hD2⟩ := copies_e e1 d1
        rw [br_t1 (by decide), bd_t hD]
        exact ⟨_, rfl, rfl, fun j hj => (hD2 j hj).trans (hF1 j hj), rfl⟩
      · right
        refine ⟨by omega, ?_⟩
        rw [br_f1 (show ¬ (7 : Int32) ≤ nI (0 + i) from nI_ge (b := 7) (by omega) (by decide))]
        have a4' : MF (f.kdP K (0 + i) 0) d1 := a4
        unfold f_X8_law_L45
        refine lp_in f.n (fun j s => s.1 = (bestI (fun c => (f.allK c).kpT k) 0 i).1 ∧ s.2.1 = (bestI (fun c => (f.allK c).kpT k) 0 i).2 ∧ s.2.2.1 = nI (0 + i) ∧ s.2.2.2.1 = nI j ∧ MF (f.kdP K (0 + i) j) s.2.2.2.2.2.2.2.2.2.2.1 ∧ s.2.2.2.2.2.2.2.2.2.2.2.1 = e1 ∧ s.2.2.2.2.2.2.2.2.2.2.2.2.1 = fo) ⟨rfl, rfl, rfl, rfl, a4', rfl, rfl⟩ (FU_gt (by omega)) ?_
        rintro j ⟨y3, y4, y5, y6, vl, vk, vo, va, vb, vc, d2, e2, fo2, f2, c2, g2, h2, o2, s2⟩ hj ⟨b1, b2, b3, b4, b5, b6, b7⟩ rd
        dsimp only at b1 b2 b3 b4 b5 b6 b7 ⊢
        subst b1 b2 b3 b4 b6 b7
        unfold f_X8_law_L45_b
        rw [show d2 (0 : Int32).toNatClampNeg = nI f.n from b5.1]
        by_cases hjn : j = f.n
        · left
          subst hjn
          rw [br_t1 (nI_le (Nat.le_refl _) (by omega))]
          unfold f_X8_law_J71 f_X8_law_J91
          obtain ⟨vl', vk', vo', d', F', c, g, h, o, gs, hT2, hd2, hg2⟩ := tries_e (VG_allK hG (c := 0 + i) (by omega)) (MF_kdP_n b5) (k := k) (by omega) vl vk vo va vb vc f2 c2 g2 h2 o2 s2
          rw [bd_t hT2]
          dsimp only
          have hMn : MF (f.kdP (fun _ => 0 + i) 0 0) d' := MF_cong (f := f.kdP (fun _ => 0 + i) 0 0) hn (MF_kdP_n b5) hd2
          by_cases q : nI ((f.allK (0 + i)).kpT k) ≤ (bestI (fun c => (f.allK c).kpT k) 0 i).2
          · have hq := bestI_t (g := fun c => (f.allK c).kpT k) q
            rw [br_t1 q, br_t1 q]
            refine ⟨_, ?_, rfl⟩
            exact ⟨by rw [hq], by rw [hq], nI_1 _, ⟨_, hMn⟩, rfl, rfl⟩
          · have hq := bestI_f (g := fun c => (f.allK c).kpT k) q
            rw [br_f1 q, br_f1 q]
            refine ⟨_, ?_, rfl⟩
            exact ⟨by rw [hq], by rw [hq], nI_1 _, ⟨_, hMn⟩, rfl, rfl⟩
        · right
          have hj' : j < f.n := by omega
          refine ⟨hj', ?_⟩
          rw [br_f1 (nI_ge hj' (by omega)), bd_t (show f_X8_sets (nI j) (0 : Int32) (nI (0 + i)) d2 = _ from sets_e (c := 0) (by omega) _ _)]
          refine ⟨_, ?_, rfl⟩
          exact ⟨rfl, rfl, rfl, nI_1 _, MF_kdP_s hn hj' b5, rfl, rfl⟩
    · rintro u v ⟨h1, h2⟩ ⟨h3, h4, h5⟩
      rw [h2, h5]
      exact ⟨h1.trans h3.symm, ⟨f, hV, hC, MF_cong hn hM h4⟩, hI2, hT, hP, hS⟩
  · rw [bd_t e7, bd_t e8, br_f1 (show ¬ (-1000001 : Int32) = 0 by decide), br_f1 (show ¬ (0 : Int32) < 0 by decide), bd_t (tell0 _), bd_t (finds0 _)]
    exact ⟨_, _, rfl, rfl, rfl, hF, hI2, RT_tell hT 0, hP, hS⟩
  · rw [bd_t e7, bd_t e8, br_f1 (show ¬ (-1000005 : Int32) = 0 by decide), br_f1 (show ¬ (4 : Int32) < 0 by decide), bd_t (tell4 _), bd_t (finds4 _)]
    exact ⟨_, _, rfl, rfl, rfl, hF, hI2, RT_tell hT 4, hP, hS⟩
theorem lp_two5i {σ α τ β : Type} {f : (σ → Option α) → σ → Option α} {g : (τ → Option β) → τ → Option β} (P : Option α → Option β → Prop) (n : Nat) (I : Nat → σ → τ → Prop)
    (h : ∀ i s t, i ≤ n → I i s t → ∀ rc rd, P (f rc s) (g rd t) ∨ (i < n ∧ ∃ s' t', I (i + 1) s' t' ∧ f rc s = rc s' ∧ g rd t = rd t')) :
    ∀ (d i : Nat) (s : σ) (t : τ) (k : Nat), n - i ≤ d → i ≤ n → I i s t → d < k → P (lp f k s) (lp g k t) := by
  intro d
  induction d with
  | zero =>
    intro i s t k hd hi hI hk
    obtain ⟨k', rfl⟩ : ∃ k', k = k' + 1 := ⟨k - 1, by omega⟩
    rcases h i s t hi hI (lp f k') (lp g k') with h1 | ⟨h1, -⟩
    · exact h1
    · omega
  | succ d ih =>
    intro i s t k hd hi hI hk
    obtain ⟨k', rfl⟩ : ∃ k', k = k' + 1 := ⟨k - 1, by omega⟩
    rcases h i s t hi hI (lp f k') (lp g k') with h1 | ⟨h1, s', t', hI', hs, ht⟩
    · exact h1
    · show P (f (lp f k') s) (g (lp g k') t)
      rw [hs, ht]
      exact ih (i + 1) s' t' k' (by omega) h1 hI' (by omega)
/-- two loops side by side, within two others -/
theorem lp_two5 {σ α τ β σ' τ' : Type} {f : (σ → Option α) → σ → Option α} {g : (τ → Option β) → τ → Option β} {s : σ} {t : τ} {rc : σ' → Option α} {rd : τ' → Option β} {R : α → β → Prop} {A : Prop} {J : σ' → τ' → Prop} (n : Nat) (I : Nat → σ → τ → Prop) (i0 : Nat) (hi0 : i0 ≤ n) (h0 : I i0 s t) (hn : n < FU)
    (h : ∀ i s t, i ≤ n → I i s t → ∀ rc2 rd2, ((∃ a b, f rc2 s = some a ∧ g rd2 t = some b ∧ R a b) ∨ (A ∧ ∃ s' t', J s' t' ∧ f rc2 s = rc s' ∧ g rd2 t = rd t')) ∨ (i < n ∧ ∃ s' t', I (i + 1) s' t' ∧ f rc2 s = rc2 s' ∧ g rd2 t = rd2 t')) :
    (∃ a b, lp f FU s = some a ∧ lp g FU t = some b ∧ R a b) ∨ (A ∧ ∃ s' t', J s' t' ∧ lp f FU s = rc s' ∧ lp g FU t = rd t') :=
  lp_two5i (fun x y => (∃ a b, x = some a ∧ y = some b ∧ R a b) ∨ (A ∧ ∃ s' t', J s' t' ∧ x = rc s' ∧ y = rd t')) n I h n i0 s t FU (by omega) hi0 h0 hn
theorem lp_two6 {σ α τ β : Type} {f : (σ → Option α) → σ → Option α} {g : (τ → Option β) → τ → Option β} {s : σ} {t : τ} {R : α → β → Prop} (n : Nat) (I : Nat → σ → τ → Prop) (i0 : Nat) (hi0 : i0 ≤ n) (h0 : I i0 s t) (hn : n < FU)
    (h : ∀ i s t, i ≤ n → I i s t → ∀ rc rd, (∃ a b, f rc s = some a ∧ g rd t = some b ∧ R a b) ∨ (i < n ∧ ∃ s' t', I (i + 1) s' t' ∧ f rc s = rc s' ∧ g rd t = rd t')) : ∃ a b, lp f FU s = some a ∧ lp g FU t = some b ∧ R a b :=
  lp_two4i n I h n i0 s t FU (by omega) hi0 h0 hn
theorem both_e {f : Fo} (hV : VG f) {kind above edge pool store spot : Nat → Int32} {basins spring hour z : Int32} (hC : CF f kind above edge pool store spot basins spring hour z) {a b k : Nat} (ha : 1 ≤ a) (hab : a < b) (hb : b < f.n) (hba : f.ab b < a) (hk : k ≤ 1000) (tb ts th tz : Int32) (tk ta te tp tst tsp : Nat → Int32) (v1 v2 v3 v4 v5 v6 v7 : Int32) (w1 w2 w3 w4 w5 us : Nat → Int32) (hu : ∀ o, o < f.n → us o = nI (f.gt k o)) :
    ∃ (tb' ts' th' tz' : Int32) (tk' ta' te' tp' tst' tsp' : Nat → Int32) (v1' v2' v3' v4' v5' v6' v7' : Int32) (w1' w2' w3' w4' w5' : Nat → Int32), f_X7_bothGain (nI a) (nI b) (nI k) tb ts th tz basins spring hour z kind tk above ta edge te pool tp store tst spot tsp v1 v2 v3 v4 v5 v6 v7 w1 w2 w3 w4 w5 us
      = some (kI (¬ nI (((f.setAb a (f.ab b)).setAb b (f.ab a)).gt k a) ≤ nI (f.gt k a) ∧ ¬ nI (((f.setAb a (f.ab b)).setAb b (f.ab a)).gt k b) ≤ nI (f.gt k b)), tb', ts', th', tz', tk', ta', te', tp', tst', tsp', v1', v2', v3', v4', v5', v6', v7', w1', w2', w3', w4', w5') := by
  have hn := hV.1
  have haa : f.ab a < a := (hV.2.1 a (by omega)).2.2.2.2 ha
  unfold f_X7_bothGain
  obtain ⟨tk', ta', te', tp', ts', tt', hSt, hCt⟩ := start_e hn hC tb ts th tz tk ta te tp tst tsp
  have hAb := (hC.2.2.2.2.1 b hb).2.1
  have hAa := (hC.2.2.2.2.1 a (by omega)).2.1
  rw [abI_s _ (by omega)] at hAb hAa
  have hCe := CF_Ab (CF_Ab hCt (b := a) (by omega) (f.ab b)) (b := b) (by omega) (f.ab a)
  have hV2 : VG ((f.setAb a (f.ab b)).setAb b (f.ab a)) := VG_Ab (VG_Ab hV hba) (by omega)
  have va : vp_in (nI a) 10 := vp_in_nI (by omega) (by decide)
  have vb : vp_in (nI b) 10 := vp_in_nI (by omega) (by decide)
  obtain ⟨vk', vl', vr', vu', w', g', c', k', p', h', s', hp, hpv⟩ := pass_e2 hV2 hCe (k := k) hk v1 v2 v3 v4 v5 v6 v7 w1 w2 w3 w4 w5
  have hga := gain_e2 (f := f) (g := (f.setAb a (f.ab b)).setAb b (f.ab a)) hn (show a < f.n by omega) rfl (hpv a (show a < f.n by omega)).2.1 (hC.2.2.2.2.1 a (by omega)).2.2.2.2
  have hgb := gain_e2 (f := f) (g := (f.setAb a (f.ab b)).setAb b (f.ab a)) hn hb rfl (hpv b hb).2.1 (hC.2.2.2.2.1 b hb).2.2.2.2
  rw [bd_t hSt]
  dsimp only
  rw [gd_t vb, gd_t va, gd_t va, gd_t vb, nI_clamp (show a < 2 ^ 31 by omega), nI_clamp (show b < 2 ^ 31 by omega), hAb, hAa, bd_t hp]
  dsimp only
  rw [bd_t hga, gd_t va, hu a (by omega)]
  by_cases q : nI (((f.setAb a (f.ab b)).setAb b (f.ab a)).gt k a) ≤ nI (f.gt k a)
  · rw [br_t1 q, kI_f (fun z => z.1 q)]
    exact ⟨_, _, _, _, _, _, _, _, _, _, _, _, _, _, _, _, _, _, _, _, _, _, rfl⟩
  · rw [br_f1 q, bd_t hgb, gd_t vb, hu b hb]
    by_cases q2 : nI (((f.setAb a (f.ab b)).setAb b (f.ab a)).gt k b) ≤ nI (f.gt k b)
    · rw [br_t1 q2, kI_f (fun z => z.2 q2)]
      exact ⟨_, _, _, _, _, _, _, _, _, _, _, _, _, _, _, _, _, _, _, _, _, _, rfl⟩
    · rw [br_f1 q2, kI_t ⟨q, q2⟩]
      exact ⟨_, _, _, _, _, _, _, _, _, _, _, _, _, _, _, _, _, _, _, _, _, _, rfl⟩
theorem L_deal (x1 : Int32) (cT_present_kind : Nat → Int32) (cT_present_above : Nat → Int32) (cT_present_edge : Nat → Int32) (cT_present_pool : Nat → Int32) (cT_present_store : Nat → Int32) (cT_present_spot : Nat → Int32) (vT_present_basins : Int32) (vT_present_spring : Int32) (vT_present_hour : Int32) (vT_present_z : Int32) (vT_pictured : Int32) (cT_picture_kind : Nat → Int32) (cT_picture_above : Nat → Int32) (cT_picture_edge : Nat → Int32) (cT_picture_pool : Nat → Int32) (cT_picture_store : Nat → Int32) (cT_picture_spot : Nat → Int32) (vT_picture_basins : Int32) (vT_picture_spring : Int32) (vT_picture_hour : Int32) (vT_picture_z : Int32) (cT_told : Nat → Int32) (cT_tape_bytes : Nat → Int32) (vT_tape_size : Int32) (vT_sheets_bits : Nat → Int32) (vT_sheets_size : Nat → Int32) (cT_sheets_numbers : Nat → Nat → Int32) (cM_d : Nat → Int32) (vM_isKept : Int32) (cM_kept : Nat → Int32) (cM_found : Nat → Int32) (cM_tape : Nat → Int32) (vM_taped : Int32) (cM_bitsOf : Nat → Int32) (cM_sizeOf : Nat → Int32) (cM_number : Nat → Int32) (vT_trial_basins : Int32) (vT_trial_spring : Int32) (vT_trial_hour : Int32) (vT_trial_z : Int32) (cT_trial_kind : Nat → Int32) (cT_trial_above : Nat → Int32) (cT_trial_edge : Nat → Int32) (cT_trial_pool : Nat → Int32) (cT_trial_store : Nat → Int32) (cT_trial_spot : Nat → Int32) (vT_flow_kept : Int32) (vT_flow_leaked : Int32) (vT_flow_ranOff : Int32) (vT_flow_uneven : Int32) (vT_flow_keptInAll : Int32) (vT_flow_leakedInAll : Int32) (vT_flow_ranOffInAll : Int32) (cT_flow_width : Nat → Int32) (cT_flow_goesOn : Nat → Int32) (cT_flow_comes : Nat → Int32) (cT_flow_keeps : Nat → Int32) (cT_flow_holds : Nat → Int32) (cT_usual : Nat → Int32) (vM_leaked : Int32) (vM_keptAll : Int32) (vM_offAll : Int32) (vM_triedOff : Int32) (vM_triedLeaked : Int32) (vM_triedKept : Int32) (cM_f : Nat → Int32) (cM_came : Nat → Int32) (cM_got : Nat → Int32) (cM_held : Nat → Int32) (cM_off : Nat → Int32) (cM_gets : Nat → Int32) (cM_gotNow : Nat → Int32) (hI : Inv cT_present_kind cT_present_above cT_present_edge cT_present_pool cT_present_store cT_present_spot vT_present_basins vT_present_spring vT_present_hour vT_present_z vT_pictured cT_picture_kind cT_picture_above cT_picture_edge cT_picture_pool cT_picture_store cT_picture_spot vT_picture_basins vT_picture_spring vT_picture_hour vT_picture_z cT_told cT_tape_bytes vT_tape_size vT_sheets_bits vT_sheets_size cT_sheets_numbers cM_d vM_isKept cM_kept cM_found cM_tape vM_taped cM_bitsOf cM_sizeOf cM_number) : ∃ (u : Int32 × Int32 × Int32 × Int32 × Int32 × (Nat → Int32) × (Nat → Int32) × (Nat → Int32) × (Nat → Int32) × (Nat → Int32) × (Nat → Int32) × Int32 × Int32 × Int32 × Int32 × Int32 × Int32 × Int32 × (Nat → Int32) × (Nat → Int32) × (Nat → Int32) × (Nat → Int32) × (Nat → Int32) × (Nat → Int32) × (Nat → Int32)) (v : Int32 × Int32 × Int32 × Int32 × Int32 × Int32 × Int32 × (Nat → Int32) × (Nat → Int32) × (Nat → Int32) × (Nat → Int32) × (Nat → Int32) × (Nat → Int32) × (Nat → Int32) × (Nat → Int32) × (Nat → Int32)), f_X7_deal x1 vT_present_basins vT_present_spring vT_present_hour vT_present_z vT_trial_basins vT_trial_spring vT_trial_hour vT_trial_z cT_present_kind cT_trial_kind cT_present_above cT_trial_above cT_present_edge cT_trial_edge cT_present_pool cT_trial_pool cT_present_store cT_trial_store cT_present_spot cT_trial_spot vT_flow_kept vT_flow_leaked vT_flow_ranOff vT_flow_uneven vT_flow_keptInAll vT_flow_leakedInAll vT_flow_ranOffInAll cT_flow_width cT_flow_goesOn cT_flow_comes cT_flow_keeps cT_flow_holds cT_usual cT_told = some u ∧ f_X8_deal x1 vM_leaked vM_keptAll vM_offAll vM_triedOff vM_triedLeaked vM_triedKept cM_d cM_f cM_came cM_got cM_held cM_off cM_gets cM_gotNow cM_found = some v ∧ u.1 = v.1 ∧ Inv cT_present_kind cT_present_above cT_present_edge cT_present_pool cT_present_store cT_present_spot vT_present_basins vT_present_spring vT_present_hour vT_present_z vT_pictured cT_picture_kind cT_picture_above cT_picture_edge cT_picture_pool cT_picture_store cT_picture_spot vT_picture_basins vT_picture_spring vT_picture_hour vT_picture_z u.2.2.2.2.2.2.2.2.2.2.2.2.2.2.2.2.2.2.2.2.2.2.2.2 cT_tape_bytes vT_tape_size vT_sheets_bits vT_sheets_size cT_sheets_numbers v.2.2.2.2.2.2.2.1 vM_isKept cM_kept v.2.2.2.2.2.2.2.2.2.2.2.2.2.2.2 cM_tape vM_taped cM_bitsOf cM_sizeOf cM_number := by
  obtain ⟨⟨f, hV, hC, hM⟩, hI2, hT, hP, hS⟩ := hI
  have hF : RF cT_present_kind cT_present_above cT_present_edge cT_present_pool cT_present_store cT_present_spot vT_present_basins vT_present_spring vT_present_hour vT_present_z cM_d := ⟨f, hV, hC, hM⟩
  have hn : f.n ≤ 10 := hV.1
  have hG : VG f := VG_of hV
  obtain rfl := hC.1
  obtain rfl := hC.2.1
  obtain rfl := hC.2.2.1
  have hh : f.hr ≤ 9999 := hV.2.2.2.1
  unfold f_X7_deal f_X8_deal
  rcases weighH hh hM x1 with ⟨k, hk1, hk, rfl, hl, e7, e8⟩ | ⟨e7, e8⟩ | ⟨e7, e8⟩
  · rw [bd_t e7, bd_t e8, br_t1 rfl, br_t1 (show (-1 : Int32) < 0 by decide)]
    obtain ⟨tb, ts, th, tz, tk, ta, te, tp, tst, tsp, v1, v2, v3, v4, v5, v6, v7, w1, w2, w3, w4, w5, us, hU, hUv⟩ := usual_e hG hC (k := k) (by omega) vT_trial_basins vT_trial_spring vT_trial_hour vT_trial_z cT_trial_kind cT_trial_above cT_trial_edge cT_trial_pool cT_trial_store cT_trial_spot vT_flow_kept vT_flow_leaked vT_flow_ranOff vT_flow_uneven vT_flow_keptInAll vT_flow_leakedInAll vT_flow_ranOffInAll cT_flow_width cT_flow_goesOn cT_flow_comes cT_flow_keeps cT_flow_holds cT_usual
    obtain ⟨vl, vk, vo, va, vb, vc, d1, F1, c1, g1, h1, o1, gs1, gn1, hK, hKd, hKv⟩ := keepGets_e hG hM (k := k) (by omega) vM_leaked vM_keptAll vM_offAll vM_triedOff vM_triedLeaked vM_triedKept cM_f cM_came cM_got cM_held cM_off cM_gets cM_gotNow
    rw [bd_t hU, bd_t hK]
    dsimp only
    refine two_imp (fun u v => u.1 = v.1 ∧ RT u.2.2.2.2.2.2.2.2.2.2.2.2.2.2.2.2.2.2.2.2.2.2.2.2 v.2.2.2.2.2.2.2.2.2.2.2.2.2.2.2 ∧ ∀ i, i < 64 → v.2.2.2.2.2.2.2.1 i = cM_d i) ?_ (fun u v e => ⟨e.1, ⟨f, hV, hC, MF_cong hn hM e.2.2⟩, hI2, e.2.1, hP, hS⟩)
    by_cases h0 : f.n = 0
    · unfold f_X7_deal_L23 f_X8_deal_L23
      refine lp_two4 0 (fun i s t => s.1 = 1 ∧ t.1 = 1 ∧ s.2.2.2.2.2.2.2.2.2.2.2.2.2.2.2.2.2.2.2.2.2.2.2.2 = cT_told ∧ t.2.2.2.2.2.2.2.2.2.2.2.2.2.2.2 = cM_found ∧ ∀ j, j < 64 → t.2.2.2.2.2.2.2.1 j = cM_d j) ⟨rfl, rfl, rfl, rfl, hKd⟩ (FU_gt (by decide)) ?_
      rintro i ⟨y3, tb, ts, th, tz, tk, ta, te, tp, tst, tsp, v1, v2, v3, v4, v5, v6, v7, w1, w2, w3, w4, w5, uu, tt⟩ ⟨z3, vl, vk, vo, va, vb, vc, d1, F1, c1, g1, h1, o1, gs1, gn, fo⟩ hi ⟨a1, a2, a3, a4, a5⟩ rc rd
      dsimp only at a1 a2 a3 a4 a5 ⊢
      subst a1 a2 a3 a4
      left
      unfold f_X7_deal_L23_b f_X8_deal_L23_b
      rw [show d1 (0 : Int32).toNatClampNeg = nI f.n from (a5 0 (by decide)).trans hM.1, h0, br_t1 (by decide), br_t1 (by decide), bd_t (tell3 _), bd_t (finds3 _)]
      exact ⟨_, _, rfl, rfl, rfl, RT_tell hT 3, a5⟩
    unfold f_X7_deal_L23 f_X8_deal_L23
    refine lp_two6 f.n (fun i s t => s.1 = nI i ∧ t.1 = nI i ∧ 1 ≤ i ∧ s.2.2.2.2.2.2.2.2.2.2.2.2.2.2.2.2.2.2.2.2.2.2.2.1 = us ∧ s.2.2.2.2.2.2.2.2.2.2.2.2.2.2.2.2.2.2.2.2.2.2.2.2 = cT_told ∧ t.2.2.2.2.2.2.2.2.2.2.2.2.2.2.1 = gn1 ∧ t.2.2.2.2.2.2.2.2.2.2.2.2.2.2.2 = cM_found ∧ ∀ j, j < 64 → t.2.2.2.2.2.2.2.1 j = cM_d j) 1 (by omega) ⟨rfl, rfl, Nat.le_refl _, rfl, rfl, rfl, rfl, hKd⟩ (FU_gt (by omega)) ?_
    rintro i ⟨y3, tb, ts, th, tz, tk, ta, te, tp, tst, tsp, v1, v2, v3, v4, v5, v6, v7, w1, w2, w3, w4, w5, uu, tt⟩ ⟨z3, vl, vk, vo, va, vb, vc, d1, F1, c1, g1, h1, o1, gs1, gn, fo⟩ hi ⟨a1, a2, a0, a3, a4, a5, a6, a7⟩ rc rd
    dsimp only at a1 a2 a3 a4 a5 a6 a7 ⊢
    subst a1 a2 a3 a4 a5 a6
    unfold f_X7_deal_L23_b f_X8_deal_L23_b
    rw [show d1 (0 : Int32).toNatClampNeg = nI f.n from (a7 0 (by decide)).trans hM.1]
    by_cases hx : i = f.n
    · left
      subst hx
      rw [br_t1 (nI_le (Nat.le_refl _) (by omega)), br_t1 (nI_le (Nat.le_refl _) (by omega)), bd_t (tell3 _), bd_t (finds3 _)]
      exact ⟨_, _, rfl, rfl, rfl, RT_tell hT 3, a7⟩
    have hi' : i < f.n := by omega
    rw [br_f1 (nI_ge hi' (by omega)), br_f1 (nI_ge hi' (by omega)), nm_q, nm_q, nI_1]
    unfold f_X7_deal_L39 f_X8_deal_L38
    refine lp_two5 f.n (fun j s t => s.1 = nI i ∧ t.1 = nI i ∧ s.2.1 = nI j ∧ t.2.1 = nI j ∧ i < j ∧ s.2.2.2.2.2.2.2.2.2.2.2.2.2.2.2.2.2.2.2.2.2.2.2.2.1 = uu ∧ s.2.2.2.2.2.2.2.2.2.2.2.2.2.2.2.2.2.2.2.2.2.2.2.2.2 = tt ∧ t.2.2.2.2.2.2.2.2.2.2.2.2.2.2.2.1 = gn ∧ t.2.2.2.2.2.2.2.2.2.2.2.2.2.2.2.2 = fo ∧ ∀ j, j < 64 → t.2.2.2.2.2.2.2.2.1 j = cM_d j) (i + 1) (by omega) ⟨rfl, rfl, rfl, rfl, by omega, rfl, rfl, rfl, rfl, a7⟩ (FU_gt (by omega)) ?_
    rintro j ⟨y3, y4, tb, ts, th, tz, tk, ta, te, tp, tst, tsp, v1, v2, v3, v4, v5, v6, v7, w1, w2, w3, w4, w5, u2, t2⟩ ⟨z3, z4, vl, vk, vo, va, vb, vc, d2, F2, c2, g2, h2, o2, gs2, gn2, fo2⟩ hj ⟨b1, b2, b3, b4, hij, b6, b7, b8, b9, b10⟩ rc2 rd2
    dsimp only at b1 b2 b3 b4 b6 b7 b8 b9 b10 ⊢
    subst b1 b2 b3 b4 b6 b7 b8 b9
    unfold f_X7_deal_L39_b f_X8_deal_L38_b
    have hM2 : MF f d2 := MF_cong hn hM b10
    rw [show d2 (0 : Int32).toNatClampNeg = nI f.n from hM2.1]
    by_cases hjx : j = f.n
    · left; right
      subst hjx
      refine ⟨hi', ?_⟩
      rw [br_t1 (nI_le (Nat.le_refl _) (by omega)), br_t1 (nI_le (Nat.le_refl _) (by omega))]
      refine ⟨_, _, ?_, rfl, rfl⟩
      exact ⟨nI_1 _, nI_1 _, by omega, rfl, rfl, rfl, rfl, b10⟩
    have hj' : j < f.n := by omega
    have vj : vp_in (nI j) 10 := vp_in_nI (by omega) (by decide)
    have hAj := (hC.2.2.2.2.1 j hj').2.1
    rw [abI_s _ (by omega)] at hAj
    have hIi := (its_k hM2 hn hi').2.1
    have hIj := (its_k hM2 hn hj').2.1
    rw [abI_s _ (by omega)] at hIi hIj
    have hbj := (hV.2.1 j hj').2.2.2.2 (by omega)
    have hbi := (hV.2.1 i hi').2.2.2.2 (by omega)
    rw [br_f1 (nI_ge hj' (by omega)), br_f1 (nI_ge hj' (by omega)), gd_t vj, nI_clamp (show j < 2 ^ 31 by omega), hAj, bd_t hIi, bd_t hIj]
    by_cases hlt : f.ab j < i
    · obtain ⟨tb', ts', th', tz', tk', ta', te', tp', tst', tsp', v1', v2', v3', v4', v5', v6', v7', w1', w2', w3', w4', w5', hB⟩ := both_e hG hC a0 hij hj' hlt (k := k) (by omega) tb ts th tz tk ta te tp tst tsp v1 v2 v3 v4 v5 v6 v7 w1 w2 w3 w4 w5 u2 hUv
      rw [br_f1 (nI_ge hlt (by omega)), bd_t hB, br_t1 (nI_lt hlt (by omega))]
      dsimp only
      have hM3 := MF_Ab hM2 hn hi' (by omega) (f.ab j)
      have hM4 := MF_Ab (f := f.setAb i (f.ab j)) hM3 hn hj' (by omega) (f.ab i)
      have hV2 : VG ((f.setAb i (f.ab j)).setAb j (f.ab i)) := VG_Ab (VG_Ab hG hlt) (by omega)
      obtain ⟨vl', vk', vo', d3, F', c, g, h, o, gs, hT2, hd3, hg2⟩ := tries_e hV2 hM4 (k := k) (by omega) vl vk vo va vb vc F2 c2 g2 h2 o2 gs2
      rw [bd_t (show f_X8_sets (nI i) (1 : Int32) (nI (f.ab j)) d2 = _ from sets_e (c := 1) (by omega) _ _), bd_t (show f_X8_sets (nI j) (1 : Int32) (nI (f.ab i)) _ = _ from sets_e (c := 1) (by omega) _ _), bd_t hT2]
      dsimp only
      rw [bd_t (show f_X8_sets (nI i) (1 : Int32) (nI (f.ab i)) d3 = _ from sets_e (c := 1) (by omega) _ _), bd_t (show f_X8_sets (nI j) (1 : Int32) (nI (f.ab j)) _ = _ from sets_e (c := 1) (by omega) _ _), nm_q]
      have eI : d2 (4 + 5 * i + 1) = nI (f.ab i) := ((hM2.2.2.2.2.1 i hi').2.1).trans (abI_s _ (by omega))
      have eJ : d2 (4 + 5 * j + 1) = nI (f.ab j) := ((hM2.2.2.2.2.1 j hj').2.1).trans (abI_s _ (by omega))
      have hd4 : ∀ a, a < 64 → upd (upd d3 (4 + 5 * i + 1) (nI (f.ab i))) (4 + 5 * j + 1) (nI (f.ab j)) a = cM_d a := by
        intro a ha
        rw [← b10 a ha]
        by_cases e1 : a = 4 + 5 * j + 1
        · rw [e1, pk_us, eJ]
        · rw [pk_un e1]
          by_cases e2 : a = 4 + 5 * i + 1
          · rw [e2, pk_us, eI]
          · rw [pk_un e2, hd3 a ha, pk_un e1, pk_un e2]
      have hM5 := MF_cong hn hM hd4
      rw [bd_t (getting1_e hn hM5.1 gs gn2)]
      have hS : ((setI (fun b => ¬ gs b ≤ gn2 b) f.n &&& ((1 : Int32) <<< (nI i &&& 31) ||| (1 : Int32) <<< (nI j &&& 31))) = ((1 : Int32) <<< (nI i &&& 31) ||| (1 : Int32) <<< (nI j &&& 31))) ↔ (¬ nI (((f.setAb i (f.ab j)).setAb j (f.ab i)).gt k i) ≤ nI (f.gt k i) ∧ ¬ nI (((f.setAb i (f.ab j)).setAb j (f.ab i)).gt k j) ≤ nI (f.gt k j)) := by
        refine (both_iff (S := setI (fun b => ¬ gs b ≤ gn2 b) f.n) (a := i) (b := j) (by omega) (by omega)).trans ?_
        rw [tb_setI f.n hn i (by omega), tb_setI f.n hn j (by omega), hKv i hi', hKv j hj', hg2 i hi', hg2 j hj']
        exact ⟨fun z => ⟨z.1.2, z.2.2⟩, fun z => ⟨⟨hi', z.1⟩, ⟨hj', z.2⟩⟩⟩
      rw [br_kI]
      by_cases q : ¬ nI (((f.setAb i (f.ab j)).setAb j (f.ab i)).gt k i) ≤ nI (f.gt k i) ∧ ¬ nI (((f.setAb i (f.ab j)).setAb j (f.ab i)).gt k j) ≤ nI (f.gt k j)
      · left; left
        rw [br_t1 q, br_t1 (hS.mpr q)]
        exact ⟨_, _, rfl, rfl, rfl, hT, hd4⟩
      · right
        rw [br_f1 q, br_f1 (fun z => q (hS.mp z))]
        refine ⟨hj', _, _, ?_, rfl, rfl⟩
        exact ⟨rfl, rfl, nI_1 _, nI_1 _, by omega, rfl, rfl, rfl, rfl, hd4⟩
    · right
      rw [br_t1 (show nI i ≤ nI (f.ab j) from nI_le (by omega) (by omega)), br_f1 (nI_nlt (by omega) (by omega))]
      refine ⟨hj', _, _, ?_, rfl, rfl⟩
      exact ⟨rfl, rfl, nI_1 _, nI_1 _, by omega, rfl, rfl, rfl, rfl, b10⟩
  · rw [bd_t e7, bd_t e8, br_f1 (show ¬ (-1000001 : Int32) = 0 by decide), br_f1 (show ¬ (0 : Int32) < 0 by decide), bd_t (tell0 _), bd_t (finds0 _)]
    exact ⟨_, _, rfl, rfl, rfl, hF, hI2, RT_tell hT 0, hP, hS⟩
  · rw [bd_t e7, bd_t e8, br_f1 (show ¬ (-1000005 : Int32) = 0 by decide), br_f1 (show ¬ (4 : Int32) < 0 by decide), bd_t (tell4 _), bd_t (finds4 _)]
    exact ⟨_, _, rfl, rfl, rfl, hF, hI2, RT_tell hT 4, hP, hS⟩
