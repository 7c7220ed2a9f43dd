/-! ===== the best of some: edge, place, kindFor ===== -/
theorem lp_go3 {σ α : Type} {step : (σ → Option α) → σ → Option α} {s0 : σ} {Q : α → Prop} (n : Nat) (I : Nat → σ → Prop) (h0 : I 0 s0) (hn : n < FU)
    (h : ∀ i s, i ≤ n → I i s → ∀ rc, (∃ r, step rc s = some r ∧ Q r) ∨ (i < n ∧ ∃ s', I (i + 1) s' ∧ step rc s = rc s')) : ∃ r, lp step FU s0 = some r ∧ Q r :=
  lp_go2 step I n (fun o => ∃ r, o = some r ∧ Q r) h s0 h0 hn
theorem two_ex {α β : Type} {a : Option α} {b : Option β} {R : α → β → Prop} (P : α → Prop) (Q : β → Prop) (h1 : ∃ u, a = some u ∧ P u) (h2 : ∃ v, b = some v ∧ Q v) (h : ∀ u v, P u → Q v → R u v) : ∃ u v, a = some u ∧ b = some v ∧ R u v := by
  obtain ⟨u, hu, hP⟩ := h1
  obtain ⟨v, hv, hQ⟩ := h2
  exact ⟨u, v, hu, hv, h u v hP hQ⟩
theorem bd_ex {α β : Type} {x : Option α} {k : α → Option β} {Q : β → Prop} (P : α → Prop) (h : ∃ u, x = some u ∧ P u) (h2 : ∀ u, P u → ∃ r, k u = some r ∧ Q r) : ∃ r, bd x k = some r ∧ Q r := by
  obtain ⟨u, hu, hP⟩ := h
  rw [bd_t hu]
  exact h2 u hP
theorem pass_e2 {f : Fo} (hV : VG f) {kind above edge pool store spot : Nat → Int32} {basins spring hour z : Int32} (hC : CF f kind above edge pool store spot basins spring hour z) {k : Nat} (hk : k ≤ 1000) (vk vl vr vu va vb vc : Int32) (W g c kk h : Nat → Int32) :
    ∃ (vk' vl' vr' vu' : Int32) (w' g' c' k' p' h' s' : Nat → Int32), f_X1_pass (nI k) vk vl vr vu va vb vc basins spring hour W above edge g c kind kk pool h store = some (vk', vl', vr', vu', nI (f.kpT k), nI (f.lkT k), nI (f.roT k), nI (f.hr + k), w', g', c', k', p', h', s') ∧
      ∀ b, b < f.n → p' b = nI ((f.it k).po b) ∧ s' b = (f.it k).st b ∧ ∀ j, k = j + 1 → k' b = nI ((f.it j).kp b) := by
  obtain rfl := hC.1
  obtain rfl := hC.2.1
  obtain rfl := hC.2.2.1
  exact pass_e hV hC hk vk vl vr vu va vb vc W g c kk h
theorem gain_e2 {f g : Fo} {k b : Nat} (hn : f.n ≤ 10) (hb : b < f.n) (hg : g.st b = f.st b) {s p : Nat → Int32} (hs : s b = (g.it k).st b) (hp : p b = f.st b) : f_X7_gain (nI b) s p = some (nI (g.gt k b)) := by
  unfold f_X7_gain
  have v : vp_in (nI b) 10 := vp_in_nI (by omega) (by decide)
  rw [gd_t v, gd_t v, nI_clamp (by omega), hs, hp, it_st, hg, Int32.add_comm, Int32.add_sub_cancel]
noncomputable def bestI (g : Nat → Nat) (lo : Nat) : Nat → Int32 × Int32
  | 0 => (nI lo, -1)
  | i + 1 => @ite _ (nI (g (lo + i)) ≤ (bestI g lo i).2) (Classical.propDecidable _) (bestI g lo i) (nI (lo + i), nI (g (lo + i)))
theorem bestI_t {g : Nat → Nat} {lo i : Nat} (h : nI (g (lo + i)) ≤ (bestI g lo i).2) : bestI g lo (i + 1) = bestI g lo i := by rw [bestI]; exact if_pos h
theorem bestI_f {g : Nat → Nat} {lo i : Nat} (h : ¬ nI (g (lo + i)) ≤ (bestI g lo i).2) : bestI g lo (i + 1) = (nI (lo + i), nI (g (lo + i))) := by rw [bestI]; exact if_neg h
theorem upd_twice {d D : Nat → Int32} {ix n : Nat} {v : Int32} (h : ∀ i, i < n → i ≠ ix → D i = d i) : ∀ i, i < n → upd D ix v i = upd d ix v i := by
  intro i hi
  by_cases e : i = ix
  · rw [e, pk_us, pk_us]
  · rw [pk_un e, pk_un e, h i hi e]
theorem bestOf_e {f : Fo} (hn : f.n ≤ 10) {d : Nat → Int32} (hM : MF f d) {b c : Nat} (hb : b < f.n) (hc : c ≤ 4) {k : Nat} (hk : k ≤ 1000) {lo hi : Nat} (hlo : lo ≤ hi) (hhi : hi ≤ 1000) (F : Nat → Fo)
    (hF : ∀ v, lo ≤ v → v ≤ hi → VG (F v) ∧ (F v).n = f.n ∧ MF (F v) (upd d (4 + 5 * b + c) (nI v))) (vl vk vo va vb vc : Int32) (ff came got held off gets : Nat → Int32) :
    ∃ r, f_X8_bestOf (nI b) (nI k) (nI c) (nI lo) (nI hi) vl vk vo va vb vc d ff came got held off gets = some r ∧ r.1 = (bestI (fun v => (F v).gt k b) lo (hi + 1 - lo)).1 ∧ ∀ i, i < 64 → r.2.2.2.2.2.2.2.1 i = d i := by
  have hix : 4 + 5 * b + c < 64 := by omega
  unfold f_X8_bestOf
  rw [bd_t (its_e hix d)]
  unfold f_X8_bestOf_L19
  refine lp_go3 (hi + 1 - lo) (fun i s => s.1 = d (4 + 5 * b + c) ∧ s.2.1 = (bestI (fun v => (F v).gt k b) lo i).1 ∧ s.2.2.1 = (bestI (fun v => (F v).gt k b) lo i).2 ∧ s.2.2.2.1 = nI (lo + i) ∧ ∀ j, j < 64 → j ≠ 4 + 5 * b + c → s.2.2.2.2.2.2.2.2.2.2.1 j = d j) ⟨rfl, rfl, rfl, rfl, fun _ _ _ => rfl⟩ (FU_gt (by omega)) ?_
  rintro i ⟨y6, y7, y8, y9, vl, vk, vo, va, vb, vc, d1, f1, c1, g1, h1, o1, s1⟩ hil ⟨a1, a2, a3, a4, a5⟩ rc
  dsimp only at a1 a2 a3 a4 a5 ⊢
  subst a1 a2 a3 a4
  unfold f_X8_bestOf_L19_b
  by_cases hx : i = hi + 1 - lo
  · left
    subst hx
    unfold f_X8_bestOf_J89
    rw [br_t1 (nI_lt (by omega) (by omega)), bd_t (sets_e hix _ _)]
    refine ⟨_, rfl, rfl, fun j hj => ?_⟩
    show upd d1 _ _ j = d j
    by_cases e : j = 4 + 5 * b + c
    · rw [e, pk_us]
    · rw [pk_un e, a5 j hj e]
  · right
    refine ⟨by omega, ?_⟩
    obtain ⟨hVF, hFn, hFM⟩ := hF (lo + i) (by omega) (by omega)
    have hM1 : MF (F (lo + i)) (upd d1 (4 + 5 * b + c) (nI (lo + i))) := MF_cong (by rw [hFn]; exact hn) hFM (upd_twice a5)
    obtain ⟨vl', vk', vo', d', F', c', g', h', o', gs, hT, hd, hg⟩ := tries_e hVF hM1 hk vl vk vo va vb vc f1 c1 g1 h1 o1 s1
    have v : vp_in (nI b) 10 := vp_in_nI (by omega) (by decide)
    rw [br_f1 (nI_nlt (by omega) (by omega)), bd_t (sets_e hix _ _), bd_t hT]
    dsimp only
    have hgb := hg b (by rw [hFn]; exact hb)
    rw [gd_t v, nI_clamp (by omega), hgb]
    have hda : ∀ j, j < 64 → j ≠ 4 + 5 * b + c → d' j = d j := fun j hj e => by rw [hd j hj, pk_un e, a5 j hj e]
    by_cases q : nI ((F (lo + i)).gt k b) ≤ (bestI (fun v => (F v).gt k b) lo i).2
    · have hq := bestI_t (g := fun v => (F v).gt k b) q
      rw [br_t1 q]
      unfold f_X8_bestOf_J57
      rw [gd_t v, nI_clamp (by omega), hgb, br_t1 q]
      exact ⟨_, ⟨rfl, by rw [hq], by rw [hq], nI_1 _, hda⟩, rfl⟩
    · have hq := bestI_f (g := fun v => (F v).gt k b) q
      rw [br_f1 q]
      unfold f_X8_bestOf_J57
      rw [gd_t v, nI_clamp (by omega), hgb, br_f1 q, gd_t v, nm_q]
      exact ⟨_, ⟨rfl, by rw [hq], by rw [hq], nI_1 _, hda⟩, rfl⟩
/-- what hinders the weighing, on both sides -/
theorem weighH {f : Fo} (hh : f.hr ≤ 9999) {d : Nat → Int32} (hM : MF f d) (x2 : Int32) :
    (∃ k, 1 ≤ k ∧ k ≤ 60 ∧ x2 = nI k ∧ f.hr + k ≤ 9999 ∧ f_X7_findingOfWeighedHours x2 (nI f.hr) = some 0 ∧ f_X8_whyHours x2 d = some (-1)) ∨
    (f_X7_findingOfWeighedHours x2 (nI f.hr) = some (-1000001) ∧ f_X8_whyHours x2 d = some 0) ∨ (f_X7_findingOfWeighedHours x2 (nI f.hr) = some (-1000005) ∧ f_X8_whyHours x2 d = some 4) := by
  have h1 : f_X7_within x2 (1 : Int32) (60 : Int32) = some (kI (rg 1 60 x2)) := within_n (by decide) (by decide) x2
  have h2 : f_X8_in x2.toInt64 (1 : Int64) (60 : Int64) = some (kI (rg 1 60 x2)) := in_n (by decide) rfl rfl x2
  unfold f_X7_findingOfWeighedHours f_X8_whyHours
  rw [bd_t h1, bd_t h2, br_kI, br_kI]
  by_cases hw : rg 1 60 x2
  · rw [br_t1 hw, br_t1 hw]
    obtain ⟨k, hk1, hk, rfl⟩ := hw
    rw [bd_t (late7 hh (by omega)), bd_t (late8 hh (by omega) hM.2.1)]
    by_cases hl : 9999 < f.hr + k
    · rw [kI_t hl, br_f1 (by decide), br_f1 (by decide)]
      exact Or.inr (Or.inr ⟨rfl, rfl⟩)
    · rw [kI_f hl, br_t1 rfl, br_t1 rfl]
      exact Or.inl ⟨k, hk1, hk, rfl, by omega, rfl, rfl⟩
  · rw [br_f1 hw, br_f1 hw]
    exact Or.inr (Or.inl ⟨rfl, rfl⟩)
theorem weighB {f : Fo} (hn : f.n ≤ 10) (hh : f.hr ≤ 9999) {d : Nat → Int32} (hM : MF f d) (x1 x2 : Int32) {lo : Nat} (hlo : lo ≤ 1) (h0 : lo = 1 → x1 ≠ 0) :
    (∃ b k, b < f.n ∧ 1 ≤ k ∧ k ≤ 60 ∧ x1 = nI b ∧ x2 = nI k ∧ f.hr + k ≤ 9999 ∧ f_X7_findingOfWeighing x1 x2 (nI f.n) (nI f.hr) = some 0 ∧ f_X8_why x1 x2 (nI lo) d = some (-1)) ∨
    (f_X7_findingOfWeighing x1 x2 (nI f.n) (nI f.hr) = some (-1000001) ∧ f_X8_why x1 x2 (nI lo) d = some 0) ∨ (f_X7_findingOfWeighing x1 x2 (nI f.n) (nI f.hr) = some (-1000005) ∧ f_X8_why x1 x2 (nI lo) d = some 4) := by
  have h2 : f_X8_in x2.toInt64 (1 : Int64) (60 : Int64) = some (kI (rg 1 60 x2)) := in_n (by decide) rfl rfl x2
  unfold f_X7_findingOfWeighing f_X8_why
  rw [bd_t (isB7 (by omega) x1), bd_t (isB8 (by omega) hM.1 x1), br_kI, br_kI]
  by_cases hb : isb f.n x1
  · rw [br_t1 hb, br_t1 hb]
    obtain ⟨b, hb, rfl⟩ := hb
    have hb0 : ¬ nI b < nI lo := nI_nlt (by
      by_cases e : lo = 1
      · have := h0 e
        have : b ≠ 0 := fun q => this (by rw [q]; rfl)
        omega
      · omega) (by omega)
    rw [br_f1 hb0, bd_t h2, br_kI]
    have h1 : f_X7_within x2 (1 : Int32) (60 : Int32) = some (kI (rg 1 60 x2)) := within_n (by decide) (by decide) x2
    unfold f_X7_findingOfWeighedHours
    rw [bd_t h1, br_kI]
    by_cases hw : rg 1 60 x2
    · rw [br_t1 hw, br_t1 hw]
      obtain ⟨k, hk1, hk, rfl⟩ := hw
      rw [bd_t (late7 hh (by omega)), bd_t (late8 hh (by omega) hM.2.1)]
      by_cases hl : 9999 < f.hr + k
      · rw [kI_t hl, br_f1 (by decide), br_f1 (by decide)]
        exact Or.inr (Or.inr ⟨rfl, rfl⟩)
      · rw [kI_f hl, br_t1 rfl, br_t1 rfl]
        exact Or.inl ⟨b, k, hb, hk1, hk, rfl, rfl, by omega, rfl, rfl⟩
    · rw [br_f1 hw, br_f1 hw]
      exact Or.inr (Or.inl ⟨rfl, rfl⟩)
  · rw [br_f1 hb, br_f1 hb]
    exact Or.inr (Or.inl ⟨rfl, rfl⟩)
theorem VG_Ed {f : Fo} (h : VG f) (b : Nat) {v : Nat} (h1v : 1 ≤ v) (hv : v ≤ 9) : VG (f.setEd b v) := by
  refine ⟨h.1, fun j hj => ?_, h.2.2⟩
  obtain ⟨h1, h2, h3, h4, h5⟩ := h.2.1 j hj
  refine ⟨h1, ?_, ?_, h4, h5⟩
  · show 1 ≤ fset f.ed b v j
    by_cases e : j = b
    · rw [e, fset_s]; exact h1v
    · rw [fset_n e]; exact h2
  · show fset f.ed b v j ≤ 9
    by_cases e : j = b
    · rw [e, fset_s]; exact hv
    · rw [fset_n e]; exact h3
theorem VG_Kd {f : Fo} (h : VG f) (b : Nat) {v : Nat} (hv : v ≤ 6) : VG (f.setKd b v) := by
  refine ⟨h.1, fun j hj => ?_, h.2.2⟩
  obtain ⟨h1, h2, h3, h4, h5⟩ := h.2.1 j hj
  refine ⟨?_, h2, h3, h4, h5⟩
  show fset f.kd b v j ≤ 6
  by_cases e : j = b
  · rw [e, fset_s]; exact hv
  · rw [fset_n e]; exact h1
theorem VG_Ab {f : Fo} (h : VG f) {b v : Nat} (hv : v < b) : VG (f.setAb b v) := by
  refine ⟨h.1, fun j hj => ?_, h.2.2⟩
  obtain ⟨h1, h2, h3, h4, h5⟩ := h.2.1 j hj
  refine ⟨h1, h2, h3, h4, fun q => ?_⟩
  show fset f.ab b v j < j
  by_cases e : j = b
  · rw [e, fset_s]; exact hv
  · rw [fset_n e]; exact h5 q
theorem asKind_e {f : Fo} (hV : VG f) {kind above edge pool store spot : Nat → Int32} {basins spring hour z : Int32} (hC : CF f kind above edge pool store spot basins spring hour z) {b c k : Nat} (hb : b < f.n) (hc : c ≤ 6) (hk : k ≤ 1000) (tb ts th tz : Int32) (tk ta te tp tst tsp : Nat → Int32) (v1 v2 v3 v4 v5 v6 v7 : Int32) (w1 w2 w3 w4 w5 : Nat → Int32) :
    ∃ (tb' ts' th' tz' : Int32) (tk' ta' te' tp' tst' tsp' : Nat → Int32) (v1' v2' v3' v4' v5' v6' v7' : Int32) (w1' w2' w3' w4' w5' : Nat → Int32), f_X7_passAsKind (nI b) (nI c) (nI k) tb ts th tz basins spring hour z kind tk above ta edge te pool tp store tst spot tsp v1 v2 v3 v4 v5 v6 v7 w1 w2 w3 w4 w5 = some (tb', ts', th', tz', tk', ta', te', tp', tst', tsp', v1', v2', v3', v4', v5', v6', v7', w1', w2', w3', w4', w5') ∧ ∀ o, o < f.n → tst' o = ((f.setKd b c).it k).st o := by
  have hn := hV.1
  unfold f_X7_passAsKind
  obtain ⟨tk', ta', te', tp', ts', tt', hSt, hCt⟩ := start_e hn hC tb ts th tz tk ta te tp tst tsp
  have hCe := CF_Kd hCt b c
  have v : vp_in (nI b) 10 := vp_in_nI (by omega) (by decide)
  rw [bd_t hSt]
  dsimp only
  obtain ⟨vk', vl', vr', vu', w', g', c', k', p', h', s', hp, hpv⟩ := pass_e2 (VG_Kd hV b (v := c) hc) hCe (k := k) hk v1 v2 v3 v4 v5 v6 v7 w1 w2 w3 w4 w5
  rw [gd_t v, nI_clamp (by omega), bd_t hp]
  exact ⟨_, _, _, _, _, _, _, _, _, _, _, _, _, _, _, _, _, _, _, _, _, _, rfl, fun o ho => (hpv o ho).2.1⟩
theorem L_edge (x1 x2 : Int32) (cT_present_kind : Nat → Int32) (cT_present_above : Nat → Int32) (cT_present_edge : Nat → Int32) (cT_present_pool : Nat → Int32) (cT_present_store : Nat → Int32) (cT_present_spot : Nat → Int32) (vT_present_basins : Int32) (vT_present_spring : Int32) (vT_present_hour : Int32) (vT_present_z : Int32) (vT_pictured : Int32) (cT_picture_kind : Nat → Int32) (cT_picture_above : Nat → Int32) (cT_picture_edge : Nat → Int32) (cT_picture_pool : Nat → Int32) (cT_picture_store : Nat → Int32) (cT_picture_spot : Nat → Int32) (vT_picture_basins : Int32) (vT_picture_spring : Int32) (vT_picture_hour : Int32) (vT_picture_z : Int32) (cT_told : Nat → Int32) (cT_tape_bytes : Nat → Int32) (vT_tape_size : Int32) (vT_sheets_bits : Nat → Int32) (vT_sheets_size : Nat → Int32) (cT_sheets_numbers : Nat → Nat → Int32) (cM_d : Nat → Int32) (vM_isKept : Int32) (cM_kept : Nat → Int32) (cM_found : Nat → Int32) (cM_tape : Nat → Int32) (vM_taped : Int32) (cM_bitsOf : Nat → Int32) (cM_sizeOf : Nat → Int32) (cM_number : Nat → Int32) (vT_trial_basins : Int32) (vT_trial_spring : Int32) (vT_trial_hour : Int32) (vT_trial_z : Int32) (cT_trial_kind : Nat → Int32) (cT_trial_above : Nat → Int32) (cT_trial_edge : Nat → Int32) (cT_trial_pool : Nat → Int32) (cT_trial_store : Nat → Int32) (cT_trial_spot : Nat → Int32) (vT_flow_kept : Int32) (vT_flow_leaked : Int32) (vT_flow_ranOff : Int32) (vT_flow_uneven : Int32) (vT_flow_keptInAll : Int32) (vT_flow_leakedInAll : Int32) (vT_flow_ranOffInAll : Int32) (cT_flow_width : Nat → Int32) (cT_flow_goesOn : Nat → Int32) (cT_flow_comes : Nat → Int32) (cT_flow_keeps : Nat → Int32) (cT_flow_holds : Nat → Int32) (vM_leaked : Int32) (vM_keptAll : Int32) (vM_offAll : Int32) (vM_triedOff : Int32) (vM_triedLeaked : Int32) (vM_triedKept : Int32) (cM_f : Nat → Int32) (cM_came : Nat → Int32) (cM_got : Nat → Int32) (cM_held : Nat → Int32) (cM_off : Nat → Int32) (cM_gets : Nat → Int32) (hI : Inv cT_present_kind cT_present_above cT_present_edge cT_present_pool cT_present_store cT_present_spot vT_present_basins vT_present_spring vT_present_hour vT_present_z vT_pictured cT_picture_kind cT_picture_above cT_picture_edge cT_picture_pool cT_picture_store cT_picture_spot vT_picture_basins vT_picture_spring vT_picture_hour vT_picture_z cT_told cT_tape_bytes vT_tape_size vT_sheets_bits vT_sheets_size cT_sheets_numbers cM_d vM_isKept cM_kept cM_found cM_tape vM_taped cM_bitsOf cM_sizeOf cM_number) : ∃ (u : Int32 × Int32 × Int32 × Int32 × Int32 × (Nat → Int32) × (Nat → Int32) × (Nat → Int32) × (Nat → Int32) × (Nat → Int32) × (Nat → Int32) × Int32 × Int32 × Int32 × Int32 × Int32 × Int32 × Int32 × (Nat → Int32) × (Nat → Int32) × (Nat → Int32) × (Nat → Int32) × (Nat → Int32) × (Nat → Int32)) (v : Int32 × Int32 × Int32 × Int32 × Int32 × Int32 × Int32 × (Nat → Int32) × (Nat → Int32) × (Nat → Int32) × (Nat → Int32) × (Nat → Int32) × (Nat → Int32) × (Nat → Int32) × (Nat → Int32)), f_X7_edge x1 x2 vT_present_basins vT_present_spring vT_present_hour vT_present_z vT_trial_basins vT_trial_spring vT_trial_hour vT_trial_z cT_present_kind cT_trial_kind cT_present_above cT_trial_above cT_present_edge cT_trial_edge cT_present_pool cT_trial_pool cT_present_store cT_trial_store cT_present_spot cT_trial_spot vT_flow_kept vT_flow_leaked vT_flow_ranOff vT_flow_uneven vT_flow_keptInAll vT_flow_leakedInAll vT_flow_ranOffInAll cT_flow_width cT_flow_goesOn cT_flow_comes cT_flow_keeps cT_flow_holds cT_told = some u ∧ f_X8_edge x1 x2 vM_leaked vM_keptAll vM_offAll vM_triedOff vM_triedLeaked vM_triedKept cM_d cM_f cM_came cM_got cM_held cM_off cM_gets cM_found = some v ∧ u.1 = v.1 ∧ Inv cT_present_kind cT_present_above cT_present_edge cT_present_pool cT_present_store cT_present_spot vT_present_basins vT_present_spring vT_present_hour vT_present_z vT_pictured cT_picture_kind cT_picture_above cT_picture_edge cT_picture_pool cT_picture_store cT_picture_spot vT_picture_basins vT_picture_spring vT_picture_hour vT_picture_z u.2.2.2.2.2.2.2.2.2.2.2.2.2.2.2.2.2.2.2.2.2.2.2 cT_tape_bytes vT_tape_size vT_sheets_bits vT_sheets_size cT_sheets_numbers v.2.2.2.2.2.2.2.1 vM_isKept cM_kept v.2.2.2.2.2.2.2.2.2.2.2.2.2.2 cM_tape vM_taped cM_bitsOf cM_sizeOf cM_number := by
  obtain ⟨⟨f, hV, hC, hM⟩, hI2, hT, hP, hS⟩ := hI
  have hF : RF cT_present_kind cT_present_above cT_present_edge cT_present_pool cT_present_store cT_present_spot vT_present_basins vT_present_spring vT_present_hour vT_present_z cM_d := ⟨f, hV, hC, hM⟩
  have hn : f.n ≤ 10 := hV.1
  obtain rfl := hC.1
  obtain rfl := hC.2.1
  obtain rfl := hC.2.2.1
  have hh : f.hr ≤ 9999 := hV.2.2.2.1
  unfold f_X7_edge f_X8_edge
  rcases weighB hn hh hM x1 x2 (lo := 0) (by decide) (fun q => absurd q (by decide)) with ⟨b, k, hb, hk1, hk, rfl, rfl, hl, e7, e8⟩ | ⟨e7, e8⟩ | ⟨e7, e8⟩
  · rw [bd_t e7, bd_t (show f_X8_why (nI b) (nI k) (0 : Int32) cM_d = some (-1) from e8), br_t1 rfl, br_t1 (show (-1 : Int32) < 0 by decide)]
    refine two_ex (fun u => u.1 = (bestI (fun v => (f.setEd b v).gt k b) 1 9).1 ∧ u.2.2.2.2.2.2.2.2.2.2.2.2.2.2.2.2.2.2.2.2.2.2.2 = cT_told) (fun v => v.1 = (bestI (fun v => (f.setEd b v).gt k b) 1 9).1 ∧ (∀ i, i < 64 → v.2.2.2.2.2.2.2.1 i = cM_d i) ∧ v.2.2.2.2.2.2.2.2.2.2.2.2.2.2 = cM_found) ?_ ?_ ?_
    · unfold f_X7_edge_L26
      refine lp_go3 9 (fun i s => s.1 = (bestI (fun v => (f.setEd b v).gt k b) 1 i).1 ∧ s.2.1 = (bestI (fun v => (f.setEd b v).gt k b) 1 i).2 ∧ s.2.2.1 = nI (1 + i) ∧ s.2.2.2.2.2.2.2.2.2.2.2.2.2.2.2.2.2.2.2.2.2.2.2.2.2 = cT_told) ⟨rfl, rfl, rfl, rfl⟩ (FU_gt (by decide)) ?_
      rintro i ⟨y4, y5, y6, tb, ts, th, tz, tk, ta, te, tp, tst, tsp, v1, v2, v3, v4, v5, v6, v7, w1, w2, w3, w4, w5, tt⟩ hi ⟨a1, a2, a3, a4⟩ rc
      dsimp only at a1 a2 a3 a4 ⊢
      subst a1 a2 a3 a4
      unfold f_X7_edge_L26_b
      by_cases hx : i = 9
      · left
        subst hx
        rw [br_t1 (by decide)]
        exact ⟨_, rfl, rfl, rfl⟩
      · right
        refine ⟨by omega, ?_⟩
        obtain ⟨tk', ta', te', tp', ts', tt', hSt, hCt⟩ := start_e hn hC tb ts th tz tk ta te tp tst tsp
        have hCe := CF_Ed hCt b (1 + i)
        have v : vp_in (nI b) 10 := vp_in_nI (by omega) (by decide)
        rw [br_f1 (show ¬ (9 : Int32) < nI (1 + i) from nI_nlt (a := 9) (by omega) (by omega)), bd_t hSt]
        dsimp only
        obtain ⟨vk', vl', vr', vu', w', g', c', k', p', h', s', hp, hpv⟩ := pass_e2 (VG_Ed (VG_of hV) b (v := 1 + i) (by omega) (by omega)) hCe (k := k) (by omega) v1 v2 v3 v4 v5 v6 v7 w1 w2 w3 w4 w5
        have hg := gain_e2 (f := f) (g := f.setEd b (1 + i)) hn hb rfl (hpv b hb).2.1 (hC.2.2.2.2.1 b hb).2.2.2.2
        rw [gd_t v, nI_clamp (by omega), bd_t hp]
        dsimp only
        rw [bd_t hg]
        by_cases q : nI ((f.setEd b (1 + i)).gt k b) ≤ (bestI (fun v => (f.setEd b v).gt k b) 1 i).2
        · have hq := bestI_t (g := fun v => (f.setEd b v).gt k b) q
          rw [br_t1 q]
          exact ⟨_, ⟨by rw [hq], by rw [hq], nI_1 _, rfl⟩, rfl⟩
        · have hq := bestI_f (g := fun v => (f.setEd b v).gt k b) q
          rw [br_f1 q, bd_t hg]
          exact ⟨_, ⟨by rw [hq], by rw [hq], nI_1 _, rfl⟩, rfl⟩
    · obtain ⟨r, hr, hr1, hr2⟩ := bestOf_e hn hM hb (c := 2) (by decide) (k := k) (by omega) (lo := 1) (hi := 9) (by decide) (by decide) (fun v => f.setEd b v) (fun v h1 h2 => ⟨VG_Ed (VG_of hV) b h1 h2, rfl, MF_Ed hM hn hb v⟩) vM_leaked vM_keptAll vM_offAll vM_triedOff vM_triedLeaked vM_triedKept cM_f cM_came cM_got cM_held cM_off cM_gets
      exact bd_ex (fun u => u = r) ⟨r, hr, rfl⟩ (fun u hu => by rw [hu]; exact ⟨_, rfl, hr1, hr2, rfl⟩)
    · rintro u v ⟨h1, h2⟩ ⟨h3, h4, h5⟩
      rw [h2, h5]
      exact ⟨h1.trans h3.symm, ⟨f, hV, hC, MF_cong hn hM h4⟩, hI2, hT, hP, hS⟩
  · rw [bd_t e7, bd_t (show f_X8_why x1 x2 (0 : Int32) cM_d = some 0 from e8), br_f1 (show ¬ (-1000001 : Int32) = 0 by decide), br_f1 (show ¬ (0 : Int32) < 0 by decide), bd_t (tell0 _), bd_t (finds0 _)]
    exact ⟨_, _, rfl, rfl, rfl, hF, hI2, RT_tell hT 0, hP, hS⟩
  · rw [bd_t e7, bd_t (show f_X8_why x1 x2 (0 : Int32) cM_d = some 4 from e8), br_f1 (show ¬ (-1000005 : Int32) = 0 by decide), br_f1 (show ¬ (4 : Int32) < 0 by decide), bd_t (tell4 _), bd_t (finds4 _)]
    exact ⟨_, _, rfl, rfl, rfl, hF, hI2, RT_tell hT 4, hP, hS⟩
theorem L_kindFor (x1 x2 : Int32) (cT_present_kind : Nat → Int32) (cT_present_above : Nat → Int32) (cT_present_edge : Nat → Int32) (cT_present_pool : Nat → Int32) (cT_present_store : Nat → Int32) (cT_present_spot : Nat → Int32) (vT_present_basins : Int32) (vT_present_spring : Int32) (vT_present_hour : Int32) (vT_present_z : Int32) (vT_pictured : Int32) (cT_picture_kind : Nat → Int32) (cT_picture_above : Nat → Int32) (cT_picture_edge : Nat → Int32) (cT_picture_pool : Nat → Int32) (cT_picture_store : Nat → Int32) (cT_picture_spot : Nat → Int32) (vT_picture_basins : Int32) (vT_picture_spring : Int32) (vT_picture_hour : Int32) (vT_picture_z : Int32) (cT_told : Nat → Int32) (cT_tape_bytes : Nat → Int32) (vT_tape_size : Int32) (vT_sheets_bits : Nat → Int32) (vT_sheets_size : Nat → Int32) (cT_sheets_numbers : Nat → Nat → Int32) (cM_d : Nat → Int32) (vM_isKept : Int32) (cM_kept : Nat → Int32) (cM_found : Nat → Int32) (cM_tape : Nat → Int32) (vM_taped : Int32) (cM_bitsOf : Nat → Int32) (cM_sizeOf : Nat → Int32) (cM_number : Nat → Int32) (vT_trial_basins : Int32) (vT_trial_spring : Int32) (vT_trial_hour : Int32) (vT_trial_z : Int32) (cT_trial_kind : Nat → Int32) (cT_trial_above : Nat → Int32) (cT_trial_edge : Nat → Int32) (cT_trial_pool : Nat → Int32) (cT_trial_store : Nat → Int32) (cT_trial_spot : Nat → Int32) (vT_flow_kept : Int32) (vT_flow_leaked : Int32) (vT_flow_ranOff : Int32) (vT_flow_uneven : Int32) (vT_flow_keptInAll : Int32) (vT_flow_leakedInAll : Int32) (vT_flow_ranOffInAll : Int32) (cT_flow_width : Nat → Int32) (cT_flow_goesOn : Nat → Int32) (cT_flow_comes : Nat → Int32) (cT_flow_keeps : Nat → Int32) (cT_flow_holds : Nat → Int32) (vM_leaked : Int32) (vM_keptAll : Int32) (vM_offAll : Int32) (vM_triedOff : Int32) (vM_triedLeaked : Int32) (vM_triedKept : Int32) (cM_f : Nat → Int32) (cM_came : Nat → Int32) (cM_got : Nat → Int32) (cM_held : Nat → Int32) (cM_off : Nat → Int32) (cM_gets : Nat → Int32) (hI : Inv cT_present_kind cT_present_above cT_present_edge cT_present_pool cT_present_store cT_present_spot vT_present_basins vT_present_spring vT_present_hour vT_present_z vT_pictured cT_picture_kind cT_picture_above cT_picture_edge cT_picture_pool cT_picture_store cT_picture_spot vT_picture_basins vT_picture_spring vT_picture_hour vT_picture_z cT_told cT_tape_bytes vT_tape_size vT_sheets_bits vT_sheets_size cT_sheets_numbers cM_d vM_isKept cM_kept cM_found cM_tape vM_taped cM_bitsOf cM_sizeOf cM_number) : ∃ (u : Int32 × Int32 × Int32 × Int32 × Int32 × (Nat → Int32) × (Nat → Int32) × (Nat → Int32) × (Nat → Int32) × (Nat → Int32) × (Nat → Int32) × Int32 × Int32 × Int32 × Int32 × Int32 × Int32 × Int32 × (Nat → Int32) × (Nat → Int32) × (Nat → Int32) × (Nat → Int32) × (Nat → Int32) × (Nat → Int32)) (v : Int32 × Int32 × Int32 × Int32 × Int32 × Int32 × Int32 × (Nat → Int32) × (Nat → Int32) × (Nat → Int32) × (Nat → Int32) × (Nat → Int32) × (Nat → Int32) × (Nat → Int32) × (Nat → Int32)), f_X7_kindFor x1 x2 vT_present_basins vT_present_spring vT_present_hour vT_present_z vT_trial_basins vT_trial_spring vT_trial_hour vT_trial_z cT_present_kind cT_trial_kind cT_present_above cT_trial_above cT_present_edge cT_trial_edge cT_present_pool cT_trial_pool cT_present_store cT_trial_store cT_present_spot cT_trial_spot vT_flow_kept vT_flow_leaked vT_flow_ranOff vT_flow_uneven vT_flow_keptInAll vT_flow_leakedInAll vT_flow_ranOffInAll cT_flow_width cT_flow_goesOn cT_flow_comes cT_flow_keeps cT_flow_holds cT_told = some u ∧ f_X8_kindFor x1 x2 vM_leaked vM_keptAll vM_offAll vM_triedOff vM_triedLeaked vM_triedKept cM_d cM_f cM_came cM_got cM_held cM_off cM_gets cM_found = some v ∧ u.1 = v.1 ∧ Inv cT_present_kind cT_present_above cT_present_edge cT_present_pool cT_present_store cT_present_spot vT_present_basins vT_present_spring vT_present_hour vT_present_z vT_pictured cT_picture_kind cT_picture_above cT_picture_edge cT_picture_pool cT_picture_store cT_picture_spot vT_picture_basins vT_picture_spring vT_picture_hour vT_picture_z u.2.2.2.2.2.2.2.2.2.2.2.2.2.2.2.2.2.2.2.2.2.2.2 cT_tape_bytes vT_tape_size vT_sheets_bits vT_sheets_size cT_sheets_numbers v.2.2.2.2.2.2.2.1 vM_isKept cM_kept v.2.2.2.2.2.2.2.2.2.2.2.2.2.2 cM_tape vM_taped cM_bitsOf cM_sizeOf cM_number := by
  obtain ⟨⟨f, hV, hC, hM⟩, hI2, hT, hP, hS⟩ := hI
  have hF : RF cT_present_kind cT_present_above cT_present_edge cT_present_pool cT_present_store cT_present_spot vT_present_basins vT_present_spring vT_present_hour vT_present_z cM_d := ⟨f, hV, hC, hM⟩
  have hn : f.n ≤ 10 := hV.1
  obtain rfl := hC.1
  obtain rfl := hC.2.1
  obtain rfl := hC.2.2.1
  have hh : f.hr ≤ 9999 := hV.2.2.2.1
  unfold f_X7_kindFor f_X8_kindFor
  rcases weighB hn hh hM x1 x2 (lo := 0) (by decide) (fun q => absurd q (by decide)) with ⟨b, k, hb, hk1, hk, rfl, rfl, hl, e7, e8⟩ | ⟨e7, e8⟩ | ⟨e7, e8⟩
  · rw [bd_t e7, bd_t (show f_X8_why (nI b) (nI k) (0 : Int32) cM_d = some (-1) from e8), br_t1 rfl, br_t1 (show (-1 : Int32) < 0 by decide)]
    refine two_ex (fun u => u.1 = (bestI (fun v => (f.setKd b v).gt k b) 0 7).1 ∧ u.2.2.2.2.2.2.2.2.2.2.2.2.2.2.2.2.2.2.2.2.2.2.2 = cT_told) (fun v => v.1 = (bestI (fun v => (f.setKd b v).gt k b) 0 7).1 ∧ (∀ i, i < 64 → v.2.2.2.2.2.2.2.1 i = cM_d i) ∧ v.2.2.2.2.2.2.2.2.2.2.2.2.2.2 = cM_found) ?_ ?_ ?_
    · unfold f_X7_kindFor_L26
      refine lp_go3 7 (fun i s => s.1 = (bestI (fun v => (f.setKd b v).gt k b) 0 i).1 ∧ s.2.1 = (bestI (fun v => (f.setKd b v).gt k b) 0 i).2 ∧ s.2.2.1 = nI (0 + i) ∧ s.2.2.2.2.2.2.2.2.2.2.2.2.2.2.2.2.2.2.2.2.2.2.2.2.2 = cT_told) ⟨rfl, rfl, rfl, rfl⟩ (FU_gt (by decide)) ?_
      rintro i ⟨y4, y5, y6, tb, ts, th, tz, tk, ta, te, tp, tst, tsp, v1, v2, v3, v4, v5, v6, v7, w1, w2, w3, w4, w5, tt⟩ hi ⟨a1, a2, a3, a4⟩ rc
      dsimp only at a1 a2 a3 a4 ⊢
      subst a1 a2 a3 a4
      unfold f_X7_kindFor_L26_b
      by_cases hx : i = 7
      · left
        subst hx
        rw [br_t1 (by decide)]
        exact ⟨_, rfl, rfl, rfl⟩
      · right
        refine ⟨by omega, ?_⟩
        obtain ⟨tb', ts', th', tz', tk', ta', te', tp', tst', tsp', v1', v2', v3', v4', v5', v6', v7', w1', w2', w3', w4', w5', hp, hpv⟩ := asKind_e (VG_of hV) hC hb (c := 0 + i) (by omega) (k := k) (by omega) tb ts th tz tk ta te tp tst tsp v1 v2 v3 v4 v5 v6 v7 w1 w2 w3 w4 w5
        have hg := gain_e2 (f := f) (g := f.setKd b (0 + i)) hn hb rfl (hpv b hb) (hC.2.2.2.2.1 b hb).2.2.2.2
        rw [br_f1 (show ¬ (6 : Int32) < nI (0 + i) from nI_nlt (a := 6) (by omega) (by omega)), bd_t hp]
        dsimp only
        rw [bd_t hg]
        by_cases q : nI ((f.setKd b (0 + i)).gt k b) ≤ (bestI (fun v => (f.setKd b v).gt k b) 0 i).2
        · have hq := bestI_t (g := fun v => (f.setKd b v).gt k b) q
          rw [br_t1 q]
          exact ⟨_, ⟨by rw [hq], by rw [hq], nI_1 _, rfl⟩, rfl⟩
        · have hq := bestI_f (g := fun v => (f.setKd b v).gt k b) q
          rw [br_f1 q, bd_t hg]
          exact ⟨_, ⟨by rw [hq], by rw [hq], nI_1 _, rfl⟩, rfl⟩
    · obtain ⟨r, hr, hr1, hr2⟩ := bestOf_e hn hM hb (c := 0) (by decide) (k := k) (by omega) (lo := 0) (hi := 6) (by decide) (by decide) (fun v => f.setKd b v) (fun v h1 h2 => ⟨VG_Kd (VG_of hV) b h2, rfl, MF_Kd hM hn hb v⟩) vM_leaked vM_keptAll vM_offAll vM_triedOff vM_triedLeaked vM_triedKept cM_f cM_came cM_got cM_held cM_off cM_gets
      exact bd_ex (fun u => u = r) ⟨r, hr, rfl⟩ (fun u hu => by rw [hu]; exact ⟨_, rfl, hr1, hr2, rfl⟩)
    · rintro u v ⟨h1, h2⟩ ⟨h3, h4, h5⟩
      rw [h2, h5]
      exact ⟨h1.trans h3.symm, ⟨f, hV, hC, MF_cong hn hM h4⟩, hI2, hT, hP, hS⟩
  · rw [bd_t e7, bd_t (show f_X8_why x1 x2 (0 : Int32) cM_d = some 0 from e8), br_f1 (show ¬ (-1000001 : Int32) = 0 by decide), br_f1 (show ¬ (0 : Int32) < 0 by decide), bd_t (tell0 _), bd_t (finds0 _)]
    exact ⟨_, _, rfl, rfl, rfl, hF, hI2, RT_tell hT 0, hP, hS⟩
  · rw [bd_t e7, bd_t (show f_X8_why x1 x2 (0 : Int32) cM_d = some 4 from e8), br_f1 (show ¬ (-1000005 : Int32) = 0 by decide), br_f1 (show ¬ (4 : Int32) < 0 by decide), bd_t (tell4 _), bd_t (finds4 _)]
    exact ⟨_, _, rfl, rfl, rfl, hF, hI2, RT_tell hT 4, hP, hS⟩
theorem L_place (x1 x2 : Int32) (cT_present_kind : Nat → Int32) (cT_present_above : Nat → Int32) (cT_present_edge : Nat → Int32) (cT_present_pool : Nat → Int32) (cT_present_store : Nat → Int32) (cT_present_spot : Nat → Int32) (vT_present_basins : Int32) (vT_present_spring : Int32) (vT_present_hour : Int32) (vT_present_z : Int32) (vT_pictured : Int32) (cT_picture_kind : Nat → Int32) (cT_picture_above : Nat → Int32) (cT_picture_edge : Nat → Int32) (cT_picture_pool : Nat → Int32) (cT_picture_store : Nat → Int32) (cT_picture_spot : Nat → Int32) (vT_picture_basins : Int32) (vT_picture_spring : Int32) (vT_picture_hour : Int32) (vT_picture_z : Int32) (cT_told : Nat → Int32) (cT_tape_bytes : Nat → Int32) (vT_tape_size : Int32) (vT_sheets_bits : Nat → Int32) (vT_sheets_size : Nat → Int32) (cT_sheets_numbers : Nat → Nat → Int32) (cM_d : Nat → Int32) (vM_isKept : Int32) (cM_kept : Nat → Int32) (cM_found : Nat → Int32) (cM_tape : Nat → Int32) (vM_taped : Int32) (cM_bitsOf : Nat → Int32) (cM_sizeOf : Nat → Int32) (cM_number : Nat → Int32) (vT_trial_basins : Int32) (vT_trial_spring : Int32) (vT_trial_hour : Int32) (vT_trial_z : Int32) (cT_trial_kind : Nat → Int32) (cT_trial_above : Nat → Int32) (cT_trial_edge : Nat → Int32) (cT_trial_pool : Nat → Int32) (cT_trial_store : Nat → Int32) (cT_trial_spot : Nat → Int32) (vT_flow_kept : Int32) (vT_flow_leaked : Int32) (vT_flow_ranOff : Int32) (vT_flow_uneven : Int32) (vT_flow_keptInAll : Int32) (vT_flow_leakedInAll : Int32) (vT_flow_ranOffInAll : Int32) (cT_flow_width : Nat → Int32) (cT_flow_goesOn : Nat → Int32) (cT_flow_comes : Nat → Int32) (cT_flow_keeps : Nat → Int32) (cT_flow_holds : Nat → Int32) (vM_leaked : Int32) (vM_keptAll : Int32) (vM_offAll : Int32) (vM_triedOff : Int32) (vM_triedLeaked : Int32) (vM_triedKept : Int32) (cM_f : Nat → Int32) (cM_came : Nat → Int32) (cM_got : Nat → Int32) (cM_held : Nat → Int32) (cM_off : Nat → Int32) (cM_gets : Nat → Int32) (hI : Inv cT_present_kind cT_present_above cT_present_edge cT_present_pool cT_present_store cT_present_spot vT_present_basins vT_present_spring vT_present_hour vT_present_z vT_pictured cT_picture_kind cT_picture_above cT_picture_edge cT_picture_pool cT_picture_store cT_picture_spot vT_picture_basins vT_picture_spring vT_picture_hour vT_picture_z cT_told cT_tape_bytes vT_tape_size vT_sheets_bits vT_sheets_size cT_sheets_numbers cM_d vM_isKept cM_kept cM_found cM_tape vM_taped cM_bitsOf cM_sizeOf cM_number) : ∃ (u : Int32 × Int32 × Int32 × Int32 × Int32 × (Nat → Int32) × (Nat → Int32) × (Nat → Int32) × (Nat → Int32) × (Nat → Int32) × (Nat → Int32) × Int32 × Int32 × Int32 × Int32 × Int32 × Int32 × Int32 × (Nat → Int32) × (Nat → Int32) × (Nat → Int32) × (Nat → Int32) × (Nat → Int32) × (Nat → Int32)) (v : Int32 × Int32 × Int32 × Int32 × Int32 × Int32 × Int32 × (Nat → Int32) × (Nat → Int32) × (Nat → Int32) × (Nat → Int32) × (Nat → Int32) × (Nat → Int32) × (Nat → Int32) × (Nat → Int32)), f_X7_place x1 x2 vT_present_basins vT_present_spring vT_present_hour vT_present_z vT_trial_basins vT_trial_spring vT_trial_hour vT_trial_z cT_present_kind cT_trial_kind cT_present_above cT_trial_above cT_present_edge cT_trial_edge cT_present_pool cT_trial_pool cT_present_store cT_trial_store cT_present_spot cT_trial_spot vT_flow_kept vT_flow_leaked vT_flow_ranOff vT_flow_uneven vT_flow_keptInAll vT_flow_leakedInAll vT_flow_ranOffInAll cT_flow_width cT_flow_goesOn cT_flow_comes cT_flow_keeps cT_flow_holds cT_told = some u ∧ f_X8_place x1 x2 vM_leaked vM_keptAll vM_offAll vM_triedOff vM_triedLeaked vM_triedKept cM_d cM_f cM_came cM_got cM_held cM_off cM_gets cM_found = some v ∧ u.1 = v.1 ∧ Inv cT_present_kind cT_present_above cT_present_edge cT_present_pool cT_present_store cT_present_spot vT_present_basins vT_present_spring vT_present_hour vT_present_z vT_pictured cT_picture_kind cT_picture_above cT_picture_edge cT_picture_pool cT_picture_store cT_picture_spot vT_picture_basins vT_picture_spring vT_picture_hour vT_picture_z u.2.2.2.2.2.2.2.2.2.2.2.2.2.2.2.2.2.2.2.2.2.2.2 cT_tape_bytes vT_tape_size vT_sheets_bits vT_sheets_size cT_sheets_numbers v.2.2.2.2.2.2.2.1 vM_isKept cM_kept v.2.2.2.2.2.2.2.2.2.2.2.2.2.2 cM_tape vM_taped cM_bitsOf cM_sizeOf cM_number := by
  obtain ⟨⟨f, hV, hC, hM⟩, hI2, hT, hP, hS⟩ := hI
  have hF : RF cT_present_kind cT_present_above cT_present_edge cT_present_pool cT_present_store cT_present_spot vT_present_basins vT_present_spring vT_present_hour vT_present_z cM_d := ⟨f, hV, hC, hM⟩
  have hn : f.n ≤ 10 := hV.1
  obtain rfl := hC.1
  obtain rfl := hC.2.1
  obtain rfl := hC.2.2.1
  have hh : f.hr ≤ 9999 := hV.2.2.2.1
  unfold f_X7_place f_X8_place
  by_cases hz : x1 = 0
  · have e8 : f_X8_why x1 x2 (1 : Int32) cM_d = some 0 := by
      unfold f_X8_why
      rw [bd_t (isB8 (by omega) hM.1 x1), br_kI]
      by_cases hb : isb f.n x1
      · rw [br_t1 hb, br_t1 (show x1 < 1 by rw [hz]; decide)]
      · rw [br_f1 hb]
    rw [br_t1 hz, bd_t e8, br_f1 (show ¬ (0 : Int32) < 0 by decide), bd_t (finds0 _)]
    unfold f_X7_place_J15
    rw [br_f1 (show ¬ (-1000001 : Int32) = 0 by decide), bd_t (tell0 _)]
    exact ⟨_, _, rfl, rfl, rfl, hF, hI2, RT_tell hT 0, hP, hS⟩
  rw [br_f1 hz]
  rcases weighB hn hh hM x1 x2 (lo := 1) (by decide) (fun _ => hz) with ⟨b, k, hb, hk1, hk, rfl, rfl, hl, e7, e8⟩ | ⟨e7, e8⟩ | ⟨e7, e8⟩
  · have hb0 : b ≠ 0 := fun q => hz (by rw [q]; rfl)
    rw [bd_t e7, bd_t (show f_X8_why (nI b) (nI k) (1 : Int32) cM_d = some (-1) from e8), br_t1 (show (-1 : Int32) < 0 by decide)]
    unfold f_X7_place_J15
    rw [br_t1 rfl]
    refine two_ex (fun u => u.1 = (bestI (fun v => (f.setAb b v).gt k b) 0 b).1 ∧ u.2.2.2.2.2.2.2.2.2.2.2.2.2.2.2.2.2.2.2.2.2.2.2 = cT_told) (fun v => v.1 = (bestI (fun v => (f.setAb b v).gt k b) 0 b).1 ∧ (∀ i, i < 64 → v.2.2.2.2.2.2.2.1 i = cM_d i) ∧ v.2.2.2.2.2.2.2.2.2.2.2.2.2.2 = cM_found) ?_ ?_ ?_
    · unfold f_X7_place_L35
      refine lp_go3 b (fun i s => s.1 = (bestI (fun v => (f.setAb b v).gt k b) 0 i).1 ∧ s.2.1 = (bestI (fun v => (f.setAb b v).gt k b) 0 i).2 ∧ s.2.2.1 = nI (0 + i) ∧ s.2.2.2.2.2.2.2.2.2.2.2.2.2.2.2.2.2.2.2.2.2.2.2.2.2 = cT_told) ⟨rfl, rfl, rfl, rfl⟩ (FU_gt (by omega)) ?_
      rintro i ⟨y4, y5, y6, tb, ts, th, tz, tk, ta, te, tp, tst, tsp, v1, v2, v3, v4, v5, v6, v7, w1, w2, w3, w4, w5, tt⟩ hi ⟨a1, a2, a3, a4⟩ rc
      dsimp only at a1 a2 a3 a4 ⊢
      subst a1 a2 a3 a4
      unfold f_X7_place_L35_b
      by_cases hx : i = b
      · left
        subst hx
        rw [br_t1 (show nI i ≤ nI (0 + i) from nI_le (by omega) (by omega))]
        exact ⟨_, rfl, rfl, rfl⟩
      · right
        refine ⟨by omega, ?_⟩
        obtain ⟨tk', ta', te', tp', ts', tt', hSt, hCt⟩ := start_e hn hC tb ts th tz tk ta te tp tst tsp
        have hCe := CF_Ab hCt (b := b) hb0 (0 + i)
        have v : vp_in (nI b) 10 := vp_in_nI (by omega) (by decide)
        rw [br_f1 (show ¬ nI b ≤ nI (0 + i) from nI_ge (by omega) (by omega)), bd_t hSt]
        dsimp only
        obtain ⟨vk', vl', vr', vu', w', g', c', k', p', h', s', hp, hpv⟩ := pass_e2 (VG_Ab (VG_of hV) (b := b) (v := 0 + i) (by omega)) hCe (k := k) (by omega) v1 v2 v3 v4 v5 v6 v7 w1 w2 w3 w4 w5
        have hg := gain_e2 (f := f) (g := f.setAb b (0 + i)) hn hb rfl (hpv b hb).2.1 (hC.2.2.2.2.1 b hb).2.2.2.2
        rw [gd_t v, nI_clamp (by omega), bd_t hp]
        dsimp only
        rw [bd_t hg]
        by_cases q : nI ((f.setAb b (0 + i)).gt k b) ≤ (bestI (fun v => (f.setAb b v).gt k b) 0 i).2
        · have hq := bestI_t (g := fun v => (f.setAb b v).gt k b) q
          rw [br_t1 q]
          exact ⟨_, ⟨by rw [hq], by rw [hq], nI_1 _, rfl⟩, rfl⟩
        · have hq := bestI_f (g := fun v => (f.setAb b v).gt k b) q
          rw [br_f1 q, bd_t hg]
          exact ⟨_, ⟨by rw [hq], by rw [hq], nI_1 _, rfl⟩, rfl⟩
    · obtain ⟨r, hr, hr1, hr2⟩ := bestOf_e hn hM hb (c := 1) (by decide) (k := k) (by omega) (lo := 0) (hi := b - 1) (by omega) (by omega) (fun v => f.setAb b v) (fun v h1 h2 => ⟨VG_Ab (VG_of hV) (by omega), rfl, MF_Ab hM hn hb hb0 v⟩) vM_leaked vM_keptAll vM_offAll vM_triedOff vM_triedLeaked vM_triedKept cM_f cM_came cM_got cM_held cM_off cM_gets
      rw [show b - 1 + 1 - 0 = b by omega] at hr1
      rw [show nI b - (1 : Int32) = nI (b - 1) from pk_sub (b := 1) (by omega)]
      exact bd_ex (fun u => u = r) ⟨r, hr, rfl⟩ (fun u hu => by rw [hu]; exact ⟨_, rfl, hr1, hr2, rfl⟩)
    · rintro u v ⟨h1, h2⟩ ⟨h3, h4, h5⟩
      rw [h2, h5]
      exact ⟨h1.trans h3.symm, ⟨f, hV, hC, MF_cong hn hM h4⟩, hI2, hT, hP, hS⟩
  · rw [bd_t e7, bd_t (show f_X8_why x1 x2 (1 : Int32) cM_d = some 0 from e8), br_f1 (show ¬ (0 : Int32) < 0 by decide), bd_t (finds0 _)]
    unfold f_X7_place_J15
    rw [br_f1 (show ¬ (-1000001 : Int32) = 0 by decide), bd_t (tell0 _)]
    exact ⟨_, _, rfl, rfl, rfl, hF, hI2, RT_tell hT 0, hP, hS⟩
  · rw [bd_t e7, bd_t (show f_X8_why x1 x2 (1 : Int32) cM_d = some 4 from e8), br_f1 (show ¬ (4 : Int32) < 0 by decide), bd_t (finds4 _)]
    unfold f_X7_place_J15
    rw [br_f1 (show ¬ (-1000005 : Int32) = 0 by decide), bd_t (tell4 _)]
    exact ⟨_, _, rfl, rfl, rfl, hF, hI2, RT_tell hT 4, hP, hS⟩
