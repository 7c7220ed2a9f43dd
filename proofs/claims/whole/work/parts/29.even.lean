/-! ===== cases even, truly, judge ===== -/
def fst1 (P : Nat → Prop) (n j : Nat) : Prop := j < n ∧ P j ∧ ∀ i, i < j → ¬ P i
theorem fst1_u {P : Nat → Prop} {n j k : Nat} (h : fst1 P n j) (h2 : fst1 P n k) : j = k := by
  rcases Nat.lt_trichotomy j k with q | q | q
  · exact absurd h.2.1 (h2.2.2 j q)
  · exact q
  · exact absurd h2.2.1 (h.2.2 k q)
/-- a found one, or none: what a search answers and tells -/
def srch (P : Nat → Prop) (n : Nat) (A : Nat → Prop) (B : Prop) : Prop := (∃ j, fst1 P n j ∧ A j) ∨ ((∀ i, i < n → ¬ P i) ∧ B)
theorem srch_2 {P : Nat → Prop} {n : Nat} {A A' : Nat → Prop} {B B' : Prop} (h : srch P n A B) (h2 : srch P n A' B') : (∃ j, fst1 P n j ∧ A j ∧ A' j) ∨ (B ∧ B') := by
  rcases h with ⟨j, hj, hA⟩ | ⟨h0, hB⟩
  · rcases h2 with ⟨k, hk, hA'⟩ | ⟨h0', -⟩
    · have := fst1_u hj hk
      subst this
      exact Or.inl ⟨j, hj, hA, hA'⟩
    · exact absurd hj.2.1 (h0' j hj.1)
  · rcases h2 with ⟨k, hk, -⟩ | ⟨-, hB'⟩
    · exact absurd hk.2.1 (h0 k hk.1)
    · exact Or.inr ⟨hB, hB'⟩
theorem not_s {P : Nat → Prop} {i : Nat} (h : ∀ j, j < i → ¬ P j) (h2 : ¬ P i) : ∀ j, j < i + 1 → ¬ P j := by
  intro j hj
  by_cases e : j = i
  · rw [e]; exact h2
  · exact h j (by omega)
theorem reckon_c {f : Fo} (hV : VG f) {kind above edge pool store spot : Nat → Int32} {basins spring hour z : Int32} (hC : CF f kind above edge pool store spot basins spring hour z) (vk vl vr vu : Int32) (W g c k h : Nat → Int32) :
    ∃ w' g' c' k' h' : Nat → Int32, f_X1_reckon vk vl vr vu basins spring W above edge g c kind k pool h = some (nI f.kpS, nI f.lkS, nI f.roS, nI f.unS, w', g', c', k', h') ∧
      ∀ b, b < f.n → c' b = nI (f.cm b) ∧ k' b = nI (f.kp b) ∧ h' b = nI (f.hd b) := by
  rw [hC.1, hC.2.1]
  refine reckon_e hV ?_ vk vl vr vu W g c k h
  intro b hb
  obtain ⟨a1, a2, a3, a4, a5⟩ := hC.2.2.2.2.1 b hb
  exact ⟨a1, a2, a3, a4⟩
theorem off_5 {f : Fo} (hV : VG f) {b : Nat} (hb : b < f.n) : f.off b ≤ 99999 := by
  have := go_5 hV hb
  unfold Fo.off
  omega
theorem unS_le {f : Fo} (hV : VG f) : f.unS ≤ 999990 := by
  have h : f.unS ≤ f.n * 99999 := sumN_bd (fun b hb => by
    have := off_5 hV hb
    split <;> omega)
  have := hV.1
  have h2 : f.n * 99999 ≤ 10 * 99999 := Nat.mul_le_mul_right _ this
  omega
theorem VG_Sg {f : Fo} (h : VG f) {v : Nat} (hv : v ≤ 99999) : VG (f.setSg v) := ⟨h.1, h.2.1, hv⟩
theorem isEven_e {f : Fo} (hV : VG f) {d : Nat → Int32} (hM : MF f d) (vl vk vo : Int32) (came got held off : Nat → Int32) :
    ∃ r, f_X8_isEven vl vk vo d came got held off = some r ∧ r.1 = kI (f.unS = 0) := by
  have hn := hV.1
  obtain ⟨c, g, h, o, hL, hv⟩ := look_e hV hM vl vk vo came got held off
  unfold f_X8_isEven
  rw [bd_t hL]
  dsimp only
  unfold f_X8_isEven_L6
  refine lp_go3 f.n (fun i s => s.1 = nI i ∧ (∀ b, b < i → (if f.wd b = 0 then 0 else f.off b) = 0) ∧ s.2.2.2.2.2.2.2 = o) ⟨rfl, fun b hb => absurd hb (by omega), rfl⟩ (FU_gt (by omega)) ?_
  rintro i ⟨y, v1, v2, v3, c1, g1, h1, o1⟩ hi ⟨a1, a2, a3⟩ rc
  dsimp only at a1 a2 a3 ⊢
  subst a1 a3
  unfold f_X8_isEven_L6_b
  rw [show d (0 : Int32).toNatClampNeg = nI f.n from hM.1]
  by_cases hx : i = f.n
  · left
    subst hx
    rw [br_t1 (nI_le (Nat.le_refl _) (by omega))]
    exact ⟨_, rfl, (kI_t (sumN_zero.mpr a2)).symm⟩
  · have hi' : i < f.n := by omega
    have ho := (hv i hi').2.2.2
    have h5 := off_5 hV hi'
    have hw9 : f.wd i ≤ 90 := wd_le hV f.n i (Nat.le_refl _)
    rw [br_f1 (nI_ge hi' (by omega)), gd_t (vp_in_nI (by omega) (by decide)), nI_clamp (by omega), ho]
    by_cases h0 : f.off i = 0
    · right
      rw [br_t1 (show nI (f.off i) ≤ 0 by rw [h0]; decide)]
      refine ⟨hi', _, ⟨nI_1 i, fun b hb => ?_, rfl⟩, rfl⟩
      by_cases e : b = i
      · rw [e, h0]; split <;> rfl
      · exact a2 b (by omega)
    · rw [br_f1 (nI_nle (by omega) (by omega)), bd_t (edges_e hV hM hi')]
      by_cases hw : f.wd i = 0
      · right
        rw [br_t1 (show nI (f.wd i) ≤ 0 by rw [hw]; decide)]
        refine ⟨hi', _, ⟨nI_1 i, fun b hb => ?_, rfl⟩, rfl⟩
        by_cases e : b = i
        · rw [e, if_pos hw]
        · exact a2 b (by omega)
      · left
        rw [br_f1 (nI_nle (by omega) (by omega))]
        refine ⟨_, rfl, (kI_f (fun q => ?_)).symm⟩
        have := sumN_zero.mp q i hi'
        rw [if_neg hw] at this
        exact h0 this
theorem MF_back {f : Fo} (hn : f.n ≤ 10) {d D : Nat → Int32} (hM : MF f d) (h : ∀ i, i < 64 → i ≠ 3 → D i = d i) (v : Nat) : MF (f.setSg v) (upd D 3 (nI v)) :=
  MF_cong (f := f.setSg v) hn (MF_Sg hM v) (upd_twice h)
theorem upd_3 {d D : Nat → Int32} {v : Int32} (h : ∀ i, i < 64 → i ≠ 3 → D i = d i) (hv : v = d 3) : ∀ i, i < 64 → upd D 3 v i = d i := by
  intro i hi
  by_cases e : i = 3
  · rw [e, pk_us, hv]
  · rw [pk_un e]; exact h i hi e
theorem L_even (cT_present_kind : Nat → Int32) (cT_present_above : Nat → Int32) (cT_present_edge : Nat → Int32) (cT_present_pool : Nat → Int32) (cT_present_store : Nat → Int32) (cT_present_spot : Nat → Int32) (vT_present_basins : Int32) (vT_present_spring : Int32) (vT_present_hour : Int32) (vT_present_z : Int32) (vT_pictured : Int32) (cT_picture_kind : Nat → Int32) (cT_picture_above : Nat → Int32) (cT_picture_edge : Nat → Int32) (cT_picture_pool : Nat → Int32) (cT_picture_store : Nat → Int32) (cT_picture_spot : Nat → Int32) (vT_picture_basins : Int32) (vT_picture_spring : Int32) (vT_picture_hour : Int32) (vT_picture_z : Int32) (cT_told : Nat → Int32) (cT_tape_bytes : Nat → Int32) (vT_tape_size : Int32) (vT_sheets_bits : Nat → Int32) (vT_sheets_size : Nat → Int32) (cT_sheets_numbers : Nat → Nat → Int32) (cM_d : Nat → Int32) (vM_isKept : Int32) (cM_kept : Nat → Int32) (cM_found : Nat → Int32) (cM_tape : Nat → Int32) (vM_taped : Int32) (cM_bitsOf : Nat → Int32) (cM_sizeOf : Nat → Int32) (cM_number : Nat → Int32) (vT_trial_basins : Int32) (vT_trial_spring : Int32) (vT_trial_hour : Int32) (vT_trial_z : Int32) (cT_trial_kind : Nat → Int32) (cT_trial_above : Nat → Int32) (cT_trial_edge : Nat → Int32) (cT_trial_pool : Nat → Int32) (cT_trial_store : Nat → Int32) (cT_trial_spot : Nat → Int32) (vT_flow_kept : Int32) (vT_flow_leaked : Int32) (vT_flow_ranOff : Int32) (vT_flow_uneven : Int32) (cT_flow_width : Nat → Int32) (cT_flow_goesOn : Nat → Int32) (cT_flow_comes : Nat → Int32) (cT_flow_keeps : Nat → Int32) (cT_flow_holds : Nat → Int32) (vM_leaked : Int32) (vM_keptAll : Int32) (vM_offAll : Int32) (cM_came : Nat → Int32) (cM_got : Nat → Int32) (cM_held : Nat → Int32) (cM_off : Nat → Int32) (hI : Inv cT_present_kind cT_present_above cT_present_edge cT_present_pool cT_present_store cT_present_spot vT_present_basins vT_present_spring vT_present_hour vT_present_z vT_pictured cT_picture_kind cT_picture_above cT_picture_edge cT_picture_pool cT_picture_store cT_picture_spot vT_picture_basins vT_picture_spring vT_picture_hour vT_picture_z cT_told cT_tape_bytes vT_tape_size vT_sheets_bits vT_sheets_size cT_sheets_numbers cM_d vM_isKept cM_kept cM_found cM_tape vM_taped cM_bitsOf cM_sizeOf cM_number) : ∃ (u : Int32 × Int32 × Int32 × Int32 × Int32 × (Nat → Int32) × (Nat → Int32) × (Nat → Int32) × (Nat → Int32) × (Nat → Int32) × (Nat → Int32) × (Nat → Int32) × Int32 × Int32 × Int32 × Int32 × (Nat → Int32) × (Nat → Int32) × (Nat → Int32) × (Nat → Int32) × (Nat → Int32)) (v : Int32 × Int32 × Int32 × Int32 × (Nat → Int32) × (Nat → Int32) × (Nat → Int32) × (Nat → Int32) × (Nat → Int32) × (Nat → Int32)), f_X7_even vT_present_basins vT_present_spring vT_present_hour vT_present_z vT_trial_basins vT_trial_spring vT_trial_hour vT_trial_z cT_present_kind cT_trial_kind cT_present_above cT_trial_above cT_present_edge cT_trial_edge cT_present_pool cT_trial_pool cT_present_store cT_trial_store cT_present_spot cT_trial_spot cT_told vT_flow_kept vT_flow_leaked vT_flow_ranOff vT_flow_uneven cT_flow_width cT_flow_goesOn cT_flow_comes cT_flow_keeps cT_flow_holds = some u ∧ f_X8_even vM_leaked vM_keptAll vM_offAll cM_d cM_came cM_got cM_held cM_off cM_found = some v ∧ u.1 = v.1 ∧ Inv cT_present_kind cT_present_above cT_present_edge cT_present_pool cT_present_store cT_present_spot vT_present_basins vT_present_spring vT_present_hour vT_present_z vT_pictured cT_picture_kind cT_picture_above cT_picture_edge cT_picture_pool cT_picture_store cT_picture_spot vT_picture_basins vT_picture_spring vT_picture_hour vT_picture_z u.2.2.2.2.2.2.2.2.2.2.2.1 cT_tape_bytes vT_tape_size vT_sheets_bits vT_sheets_size cT_sheets_numbers v.2.2.2.2.1 vM_isKept cM_kept v.2.2.2.2.2.2.2.2.2 cM_tape vM_taped cM_bitsOf cM_sizeOf cM_number := by
  obtain ⟨⟨f, hV, hC, hM⟩, hI2, hT, hP, hS⟩ := hI
  have hF : RF cT_present_kind cT_present_above cT_present_edge cT_present_pool cT_present_store cT_present_spot vT_present_basins vT_present_spring vT_present_hour vT_present_z cM_d := ⟨f, hV, hC, hM⟩
  have hn : f.n ≤ 10 := hV.1
  have hG : VG f := VG_of hV
  have hsg : cM_d 3 = nI f.sg := hM.2.2.2.1
  unfold f_X7_even f_X8_even
  rw [show cM_d (0 : Int32).toNatClampNeg = nI f.n from hM.1]
  obtain rfl := hC.1
  by_cases h0 : f.n = 0
  · rw [br_t1 (show nI f.n = 0 by rw [h0]; rfl), br_t1 (show nI f.n = 0 by rw [h0]; rfl), bd_t (tell4 _), bd_t (finds4 _)]
    exact ⟨_, _, rfl, rfl, rfl, hF, hI2, RT_tell hT 4, hP, hS⟩
  · obtain ⟨tk', ta', te', tp', ts', tt', hSt, hCt⟩ := start_e hn hC vT_trial_basins vT_trial_spring vT_trial_hour vT_trial_z cT_trial_kind cT_trial_above cT_trial_edge cT_trial_pool cT_trial_store cT_trial_spot
    rw [br_f1 (nI_ne 0 0 h0), br_f1 (nI_ne 0 0 h0), bd_t hSt, nm_q]
    dsimp only
    refine two_ex (fun u => srch (fun i => (f.setSg (1 + i)).unS = 0) 9999 (fun j => u.1 = nI (1 + j) ∧ u.2.2.2.2.2.2.2.2.2.2.2.1 = cT_told) (u.1 = -1000004 ∧ u.2.2.2.2.2.2.2.2.2.2.2.1 = upd cT_told 3 (cT_told 3 + 1)))
      (fun v => (∀ i, i < 64 → v.2.2.2.2.1 i = cM_d i) ∧ srch (fun i => (f.setSg (1 + i)).unS = 0) 9999 (fun j => v.1 = nI (1 + j) ∧ v.2.2.2.2.2.2.2.2.2 = cM_found) (v.1 = -1000004 ∧ v.2.2.2.2.2.2.2.2.2 = upd cM_found 3 (cM_found 3 + 1))) ?_ ?_ ?_
    · unfold f_X7_even_L23
      refine lp_go3 9999 (fun i s => s.1 = nI (1 + i) ∧ s.2.2.2.2.2.2.2.2.2.2.2.1 = cT_told ∧ (∃ q, CF (f.setSg q) s.2.2.2.2.2.1 s.2.2.2.2.2.2.1 s.2.2.2.2.2.2.2.1 s.2.2.2.2.2.2.2.2.1 s.2.2.2.2.2.2.2.2.2.1 s.2.2.2.2.2.2.2.2.2.2.1 s.2.1 s.2.2.1 s.2.2.2.1 s.2.2.2.2.1) ∧ ∀ j, j < i → ¬ (f.setSg (1 + j)).unS = 0) ⟨rfl, rfl, ⟨f.sg, hCt⟩, fun j hj => absurd hj (by omega)⟩ (FU_gt (by decide)) ?_
      rintro i ⟨y, tb, ts, th, tz, tk, ta, te, tp, tst, tsp, tld, v1, v2, v3, v4, w1, w2, w3, w4, w5⟩ hi ⟨a1, a2, ⟨q, hCq⟩, a4⟩ rc
      dsimp only at a1 a2 hCq a4 ⊢
      subst a1 a2
      unfold f_X7_even_L23_b
      by_cases hx : i = 9999
      · left
        subst hx
        rw [br_t1 (by decide), bd_t (tell3 _)]
        exact ⟨_, rfl, Or.inr ⟨a4, rfl, rfl⟩⟩
      · have hVs : VG (f.setSg (1 + i)) := VG_Sg hG (by omega)
        obtain ⟨w', g', c', k', h', hR, -⟩ := reckon_c hVs (CF_Sg hCq (1 + i)) v1 v2 v3 v4 w1 w2 w3 w4 w5
        have hu := unS_le hVs
        rw [br_f1 (show ¬ (9999 : Int32) < nI (1 + i) from nI_nlt (a := 9999) (by omega) (by decide)), bd_t hR]
        dsimp only
        by_cases hq : (f.setSg (1 + i)).unS = 0
        · left
          rw [br_t1 (show nI (f.setSg (1 + i)).unS = 0 by rw [hq]; rfl)]
          exact ⟨_, rfl, Or.inl ⟨i, ⟨by omega, hq, a4⟩, rfl, rfl⟩⟩
        · right
          rw [br_f1 (nI_ne 0 0 hq)]
          refine ⟨by omega, _, ?_, rfl⟩
          exact ⟨nI_1 _, rfl, ⟨1 + i, CF_Sg hCq (1 + i)⟩, not_s (P := fun i => (f.setSg (1 + i)).unS = 0) a4 hq⟩
    · unfold f_X8_even_L26
      refine lp_go3 10000 (fun i s => s.1 = nI f.sg ∧ s.2.2.2.2.2.2.2.2.2.2.2 = cM_found ∧ (∀ j, j < 64 → j ≠ 3 → s.2.2.2.2.2.2.1 j = cM_d j) ∧ ((s.2.2.1 = 0 ∧ i ≤ 9999 ∧ s.2.1 = nI (1 + i) ∧ ∀ j, j < i → ¬ (f.setSg (1 + j)).unS = 0) ∨ (s.2.2.1 = 1 ∧ ∃ j, fst1 (fun i => (f.setSg (1 + i)).unS = 0) 9999 j ∧ s.2.1 = nI (1 + j)))) ⟨hsg, rfl, fun _ _ _ => rfl, Or.inl ⟨rfl, by decide, rfl, fun j hj => absurd hj (by omega)⟩⟩ (FU_gt (by decide)) ?_
      rintro i ⟨y1, y2, y3, vl, vk, vo, d1, c1, g1, h1, o1, fo⟩ hi ⟨a1, a2, a3, a4⟩ rc
      dsimp only at a1 a2 a3 a4 ⊢
      subst a1 a2
      unfold f_X8_even_L26_b f_X8_even_J64
      have hd3 : ∀ j, j < 64 → upd d1 (3 : Int32).toNatClampNeg (nI f.sg) j = cM_d j := upd_3 a3 hsg.symm
      rcases a4 with ⟨b1, b2, b3, b4⟩ | ⟨b1, j, b2, b3⟩
      · subst b1 b3
        rw [br_t1 rfl]
        by_cases hx : i = 9999
        · left
          subst hx
          rw [br_t1 (by decide), br_t1 rfl, bd_t (finds3 _)]
          exact ⟨_, rfl, hd3, Or.inr ⟨b4, rfl, rfl⟩⟩
        · right
          refine ⟨by omega, ?_⟩
          have hVs : VG (f.setSg (1 + i)) := VG_Sg hG (by omega)
          obtain ⟨⟨y9, vl', vk', vo', c, g, h, o⟩, hE, hE2⟩ := isEven_e hVs (MF_back hn hM a3 (1 + i)) vl vk vo c1 g1 h1 o1
          dsimp only at hE2
          subst hE2
          rw [br_f1 (show ¬ (9999 : Int32) < nI (1 + i) from nI_nlt (a := 9999) (by omega) (by decide)), bd_t (show f_X8_isEven vl vk vo (upd d1 (3 : Int32).toNatClampNeg (nI (1 + i))) c1 g1 h1 o1 = _ from hE)]
          dsimp only
          have hd4 : ∀ j, j < 64 → j ≠ 3 → upd d1 (3 : Int32).toNatClampNeg (nI (1 + i)) j = cM_d j := fun j hj e => (pk_un e).trans (a3 j hj e)
          rw [br_kI]
          by_cases hq : (f.setSg (1 + i)).unS = 0
          · rw [br_t1 hq, kI_t hq, nm_q, Int32.add_zero]
            exact ⟨_, ⟨rfl, rfl, hd4, Or.inr ⟨rfl, i, ⟨by omega, hq, b4⟩, rfl⟩⟩, rfl⟩
          · rw [br_f1 hq, kI_f hq, nm_q]
            exact ⟨_, ⟨rfl, rfl, hd4, Or.inl ⟨rfl, by omega, nI_1 _, not_s (P := fun i => (f.setSg (1 + i)).unS = 0) b4 hq⟩⟩, rfl⟩
      · left
        subst b1 b3
        rw [br_f1 (by decide), br_f1 (by decide)]
        exact ⟨_, rfl, hd3, Or.inl ⟨j, b2, rfl, rfl⟩⟩
    · rintro u v h1 ⟨h2, h3⟩
      rcases srch_2 h1 h3 with ⟨j, -, ⟨e1, e2⟩, e3, e4⟩ | ⟨⟨e1, e2⟩, e3, e4⟩
      · rw [e2, e4]
        exact ⟨e1.trans e3.symm, ⟨f, hV, hC, MF_cong hn hM h2⟩, hI2, hT, hP, hS⟩
      · rw [e2, e4]
        exact ⟨e1.trans e3.symm, ⟨f, hV, hC, MF_cong hn hM h2⟩, hI2, RT_tell hT 3, hP, hS⟩
theorem L_truly (x1 x2 x3 : Int32) (cT_present_kind : Nat → Int32) (cT_present_above : Nat → Int32) (cT_present_edge : Nat → Int32) (cT_present_pool : Nat → Int32) (cT_present_store : Nat → Int32) (cT_present_spot : Nat → Int32) (vT_present_basins : Int32) (vT_present_spring : Int32) (vT_present_hour : Int32) (vT_present_z : Int32) (vT_pictured : Int32) (cT_picture_kind : Nat → Int32) (cT_picture_above : Nat → Int32) (cT_picture_edge : Nat → Int32) (cT_picture_pool : Nat → Int32) (cT_picture_store : Nat → Int32) (cT_picture_spot : Nat → Int32) (vT_picture_basins : Int32) (vT_picture_spring : Int32) (vT_picture_hour : Int32) (vT_picture_z : Int32) (cT_told : Nat → Int32) (cT_tape_bytes : Nat → Int32) (vT_tape_size : Int32) (vT_sheets_bits : Nat → Int32) (vT_sheets_size : Nat → Int32) (cT_sheets_numbers : Nat → Nat → Int32) (cM_d : Nat → Int32) (vM_isKept : Int32) (cM_kept : Nat → Int32) (cM_found : Nat → Int32) (cM_tape : Nat → Int32) (vM_taped : Int32) (cM_bitsOf : Nat → Int32) (cM_sizeOf : Nat → Int32) (cM_number : Nat → Int32) (vT_trial_basins : Int32) (vT_trial_spring : Int32) (vT_trial_hour : Int32) (vT_trial_z : Int32) (cT_trial_kind : Nat → Int32) (cT_trial_above : Nat → Int32) (cT_trial_edge : Nat → Int32) (cT_trial_pool : Nat → Int32) (cT_trial_store : Nat → Int32) (cT_trial_spot : Nat → Int32) (vT_flow_kept : Int32) (vT_flow_leaked : Int32) (vT_flow_ranOff : Int32) (vT_flow_uneven : Int32) (cT_flow_width : Nat → Int32) (cT_flow_goesOn : Nat → Int32) (cT_flow_comes : Nat → Int32) (cT_flow_keeps : Nat → Int32) (cT_flow_holds : Nat → Int32) (vM_leaked : Int32) (vM_keptAll : Int32) (vM_offAll : Int32) (cM_came : Nat → Int32) (cM_got : Nat → Int32) (cM_held : Nat → Int32) (cM_off : Nat → Int32) (hI : Inv cT_present_kind cT_present_above cT_present_edge cT_present_pool cT_present_store cT_present_spot vT_present_basins vT_present_spring vT_present_hour vT_present_z vT_pictured cT_picture_kind cT_picture_above cT_picture_edge cT_picture_pool cT_picture_store cT_picture_spot vT_picture_basins vT_picture_spring vT_picture_hour vT_picture_z cT_told cT_tape_bytes vT_tape_size vT_sheets_bits vT_sheets_size cT_sheets_numbers cM_d vM_isKept cM_kept cM_found cM_tape vM_taped cM_bitsOf cM_sizeOf cM_number) : ∃ (u : Int32 × (Nat → Int32) × Int32 × Int32 × Int32 × Int32 × (Nat → Int32) × (Nat → Int32) × (Nat → Int32) × (Nat → Int32) × (Nat → Int32) × (Nat → Int32) × Int32 × Int32 × Int32 × Int32 × (Nat → Int32) × (Nat → Int32) × (Nat → Int32) × (Nat → Int32) × (Nat → Int32)) (v : Int32 × Int32 × Int32 × Int32 × (Nat → Int32) × (Nat → Int32) × (Nat → Int32) × (Nat → Int32) × (Nat → Int32) × (Nat → Int32)), f_X7_truly x1 x2 x3 vT_present_basins vT_present_spring vT_present_hour vT_present_z cT_told vT_trial_basins vT_trial_spring vT_trial_hour vT_trial_z cT_present_kind cT_trial_kind cT_present_above cT_trial_above cT_present_edge cT_trial_edge cT_present_pool cT_trial_pool cT_present_store cT_trial_store cT_present_spot cT_trial_spot vT_flow_kept vT_flow_leaked vT_flow_ranOff vT_flow_uneven cT_flow_width cT_flow_goesOn cT_flow_comes cT_flow_keeps cT_flow_holds = some u ∧ f_X8_truly x1 x2 x3 vM_leaked vM_keptAll vM_offAll cM_d cM_found cM_came cM_got cM_held cM_off = some v ∧ u.1 = v.1 ∧ Inv cT_present_kind cT_present_above cT_present_edge cT_present_pool cT_present_store cT_present_spot vT_present_basins vT_present_spring vT_present_hour vT_present_z vT_pictured cT_picture_kind cT_picture_above cT_picture_edge cT_picture_pool cT_picture_store cT_picture_spot vT_picture_basins vT_picture_spring vT_picture_hour vT_picture_z u.2.1 cT_tape_bytes vT_tape_size vT_sheets_bits vT_sheets_size cT_sheets_numbers v.2.2.2.2.1 vM_isKept cM_kept v.2.2.2.2.2.1 cM_tape vM_taped cM_bitsOf cM_sizeOf cM_number := by
  obtain ⟨⟨f, hV, hC, hM⟩, hI2, hT, hP, hS⟩ := hI
  have hF : RF cT_present_kind cT_present_above cT_present_edge cT_present_pool cT_present_store cT_present_spot vT_present_basins vT_present_spring vT_present_hour vT_present_z cM_d := ⟨f, hV, hC, hM⟩
  have hn : f.n ≤ 10 := hV.1
  have hG : VG f := VG_of hV
  have hsg : cM_d 3 = nI f.sg := hM.2.2.2.1
  have h71 : f_X7_within x2 (0 : Int32) (9999 : Int32) = some (kI (rg 0 9999 x2)) := within_n (by decide) (by decide) x2
  have h81 : f_X8_in x2.toInt64 (0 : Int64) (9999 : Int64) = some (kI (rg 0 9999 x2)) := in_n (by decide) rfl rfl x2
  have h72 : f_X7_within x3 (0 : Int32) (1 : Int32) = some (kI (rg 0 1 x3)) := within_n (by decide) (by decide) x3
  have h82 : f_X8_in x3.toInt64 (0 : Int64) (1 : Int64) = some (kI (rg 0 1 x3)) := in_n (by decide) rfl rfl x3
  obtain rfl := hC.1
  unfold f_X7_truly f_X8_truly
  rw [bd_t (isB7 (by omega) x1), bd_t (isB8 (by omega) hM.1 x1), br_kI, br_kI]
  by_cases hb : isb f.n x1
  rotate_left
  · rw [br_f1 hb, br_f1 hb, bd_t (tell0 _), bd_t (finds0 _)]
    exact ⟨_, _, rfl, rfl, rfl, hF, hI2, RT_tell hT 0, hP, hS⟩
  rw [br_t1 hb, br_t1 hb, bd_t h71, bd_t h81, br_kI, br_kI]
  by_cases hv : rg 0 9999 x2
  rotate_left
  · rw [br_f1 hv, br_f1 hv, bd_t (tell0 _), bd_t (finds0 _)]
    exact ⟨_, _, rfl, rfl, rfl, hF, hI2, RT_tell hT 0, hP, hS⟩
  rw [br_t1 hv, br_t1 hv, bd_t h72, bd_t h82, br_kI, br_kI]
  by_cases hw : rg 0 1 x3
  rotate_left
  · rw [br_f1 hw, br_f1 hw, bd_t (tell0 _), bd_t (finds0 _)]
    exact ⟨_, _, rfl, rfl, rfl, hF, hI2, RT_tell hT 0, hP, hS⟩
  obtain ⟨b, hb, rfl⟩ := hb
  obtain ⟨vv, -, hvv, rfl⟩ := hv
  obtain ⟨w, -, hw1, rfl⟩ := hw
  have vb : vp_in (nI b) 10 := vp_in_nI (by omega) (by decide)
  obtain ⟨tk', ta', te', tp', ts', tt', hSt, hCt⟩ := start_e hn hC vT_trial_basins vT_trial_spring vT_trial_hour vT_trial_z cT_trial_kind cT_trial_above cT_trial_edge cT_trial_pool cT_trial_store cT_trial_spot
  rw [br_t1 ⟨w, by omega, hw1, rfl⟩, br_t1 ⟨w, by omega, hw1, rfl⟩, bd_t hSt, nm_q]
  dsimp only
  have hone : ∀ i, i ≤ 9999 → ∀ j, j ≤ 9999 → (nI ((f.setSg i).kp b) = nI vv ↔ (f.setSg i).kp b = vv) := fun i hi j hj => by
    have := kp_5 (VG_Sg hG (v := i) (by omega)) (show b < (f.setSg i).n from hb)
    exact nI_eq (by omega) (by omega)
  obtain ⟨dir, hdir⟩ : ∃ dir : Nat → Nat, dir = fun i => if w = 0 then i else 9999 - i := ⟨_, rfl⟩
  have hdl : ∀ i, i ≤ 9999 → dir i ≤ 9999 := fun i hi => by rw [hdir]; dsimp only; split <;> omega
  refine two_ex (fun u => srch (fun i => (f.setSg (dir i)).kp b = vv) 10000 (fun j => u.1 = nI (dir j) ∧ u.2.1 = cT_told) (u.1 = -1000004 ∧ u.2.1 = upd cT_told 3 (cT_told 3 + 1)))
    (fun v => (∀ i, i < 64 → v.2.2.2.2.1 i = cM_d i) ∧ srch (fun i => (f.setSg (dir i)).kp b = vv) 10000 (fun j => v.1 = nI (dir j) ∧ v.2.2.2.2.2.1 = cM_found) (v.1 = -1000004 ∧ v.2.2.2.2.2.1 = upd cM_found 3 (cM_found 3 + 1))) ?_ ?_ ?_
  · unfold f_X7_truly_L42
    refine lp_go3 10000 (fun i s => s.1 = nI i ∧ s.2.1 = cT_told ∧ (∃ q, CF (f.setSg q) s.2.2.2.2.2.2.1 s.2.2.2.2.2.2.2.1 s.2.2.2.2.2.2.2.2.1 s.2.2.2.2.2.2.2.2.2.1 s.2.2.2.2.2.2.2.2.2.2.1 s.2.2.2.2.2.2.2.2.2.2.2.1 s.2.2.1 s.2.2.2.1 s.2.2.2.2.1 s.2.2.2.2.2.1) ∧ ∀ j, j < i → ¬ (f.setSg (dir j)).kp b = vv) ⟨rfl, rfl, ⟨f.sg, hCt⟩, fun j hj => absurd hj (by omega)⟩ (FU_gt (by decide)) ?_
    rintro i ⟨y, tld, tb, ts, th, tz, tk, ta, te, tp, tst, tsp, v1, v2, v3, v4, w1, w2, w3, w4, w5⟩ hi ⟨a1, a2, ⟨q, hCq⟩, a4⟩ rc
    dsimp only at a1 a2 hCq a4 ⊢
    subst a1 a2
    unfold f_X7_truly_L42_b
    by_cases hx : i = 10000
    · left
      subst hx
      rw [br_t1 (by decide), bd_t (tell3 _)]
      exact ⟨_, rfl, Or.inr ⟨a4, rfl, rfl⟩⟩
    · have hl := hdl i (by omega)
      have hVs : VG (f.setSg (dir i)) := VG_Sg hG (by omega)
      obtain ⟨w', g', c', k', h', hR, hRv⟩ := reckon_c hVs (CF_Sg hCq (dir i)) v1 v2 v3 v4 w1 w2 w3 w4 w5
      have hkb := (hRv b hb).2.1
      have e69 : ∀ {A : Type} (X Z : Option A), (w = 0 → X = Z) → (w ≠ 0 → Z = Z) → br (nI w = 0) X Z = Z := fun X Z h1 _ => by
        by_cases h : w = 0
        · rw [br_t1 (show nI w = 0 by rw [h]; rfl), h1 h]
        · rw [br_f1 (nI_ne 0 0 h)]
      have hdi : br (nI w = 0) (f_X7_truly_J69 (nI b) (nI vv) (nI w) (nI f.n) vT_present_spring vT_present_hour vT_present_z cT_present_kind cT_present_above cT_present_edge cT_present_pool cT_present_store cT_present_spot rc (nI i) (nI i) tld tb ts th tz tk ta te tp tst tsp v1 v2 v3 v4 w1 w2 w3 w4 w5) (f_X7_truly_J69 (nI b) (nI vv) (nI w) (nI f.n) vT_present_spring vT_present_hour vT_present_z cT_present_kind cT_present_above cT_present_edge cT_present_pool cT_present_store cT_present_spot rc (nI i) ((9999 : Int32) - nI i) tld tb ts th tz tk ta te tp tst tsp v1 v2 v3 v4 w1 w2 w3 w4 w5)
          = f_X7_truly_J69 (nI b) (nI vv) (nI w) (nI f.n) vT_present_spring vT_present_hour vT_present_z cT_present_kind cT_present_above cT_present_edge cT_present_pool cT_present_store cT_present_spot rc (nI i) (nI (dir i)) tld tb ts th tz tk ta te tp tst tsp v1 v2 v3 v4 w1 w2 w3 w4 w5 := by
        rw [hdir]
        by_cases h : w = 0
        · rw [br_t1 (show nI w = 0 by rw [h]; rfl)]
          dsimp only
          rw [if_pos h]
        · rw [br_f1 (nI_ne 0 0 h), show (9999 : Int32) - nI i = nI (9999 - i) from pk_sub (a := 9999) (by omega)]
          dsimp only
          rw [if_neg h]
      rw [br_f1 (show ¬ (9999 : Int32) < nI i from nI_nlt (a := 9999) (by omega) (by decide)), hdi]
      unfold f_X7_truly_J69
      rw [bd_t hR]
      dsimp only
      rw [gd_t vb, nI_clamp (by omega), hkb]
      by_cases hq : (f.setSg (dir i)).kp b = vv
      · left
        rw [br_t1 (by rw [hq])]
        exact ⟨_, rfl, Or.inl ⟨i, ⟨by omega, hq, a4⟩, rfl, rfl⟩⟩
      · right
        rw [br_f1 (fun z => hq ((hone _ hl 0 (by decide)).mp z))]
        refine ⟨by omega, _, ?_, rfl⟩
        exact ⟨nI_1 _, rfl, ⟨dir i, CF_Sg hCq (dir i)⟩, not_s (P := fun i => (f.setSg (dir i)).kp b = vv) a4 hq⟩
  · unfold f_X8_truly_L50
    refine lp_go3 10000 (fun i s => s.1 = nI f.sg ∧ s.2.2.1 = nI i ∧ s.2.2.2.2.2.2.2.1 = cM_found ∧ (∀ j, j < 64 → j ≠ 3 → s.2.2.2.2.2.2.1 j = cM_d j) ∧ ((s.2.1 = -1 ∧ ∀ j, j < i → ¬ (f.setSg j).kp b = vv) ∨ (∃ j, j < i ∧ (f.setSg j).kp b = vv ∧ s.2.1 = nI j ∧ (w = 0 → ∀ a, a < j → ¬ (f.setSg a).kp b = vv) ∧ (w = 1 → ∀ a, j < a → a < i → ¬ (f.setSg a).kp b = vv)))) ⟨hsg, rfl, rfl, fun _ _ _ => rfl, Or.inl ⟨rfl, fun j hj => absurd hj (by omega)⟩⟩ (FU_gt (by decide)) ?_
    rintro i ⟨y1, y2, y3, vl, vk, vo, d1, fo, c1, g1, h1, o1⟩ hi ⟨a1, a2, a3, a4, a5⟩ rc
    dsimp only at a1 a2 a3 a4 a5 ⊢
    subst a1 a2 a3
    unfold f_X8_truly_L50_b
    by_cases hx : i = 10000
    · left
      subst hx
      unfold f_X8_truly_J105
      have hd3 : ∀ j, j < 64 → upd d1 (3 : Int32).toNatClampNeg (nI f.sg) j = cM_d j := upd_3 a4 hsg.symm
      rw [br_t1 (by decide)]
      rcases a5 with ⟨rfl, b2⟩ | ⟨j, b1, b2, rfl, b4, b5⟩
      · rw [br_f1 (by decide), bd_t (finds3 _)]
        refine ⟨_, rfl, hd3, Or.inr ⟨fun a ha => ?_, rfl, rfl⟩⟩
        have := hdl a (by omega)
        exact b2 _ (by omega)
      · rw [br_t1 (nI_pos' (by omega))]
        refine ⟨_, rfl, hd3, Or.inl ?_⟩
        rw [hdir]
        by_cases h : w = 0
        · refine ⟨j, ⟨b1, ?_, fun a ha => ?_⟩, ?_, rfl⟩
          · dsimp only; rw [if_pos h]; exact b2
          · dsimp only; rw [if_pos h]; exact b4 h a ha
          · dsimp only; rw [if_pos h]
        · refine ⟨9999 - j, ⟨by omega, ?_, fun a ha => ?_⟩, ?_, rfl⟩
          · dsimp only; rw [if_neg h, show 9999 - (9999 - j) = j by omega]; exact b2
          · dsimp only; rw [if_neg h]; exact b5 (by omega) _ (by omega) (by omega)
          · dsimp only; rw [if_neg h, show 9999 - (9999 - j) = j by omega]
    · right
      refine ⟨by omega, ?_⟩
      have hVs : VG (f.setSg i) := VG_Sg hG (by omega)
      obtain ⟨c, g, h, o, hL, hLv⟩ := look_e hVs (MF_back hn hM a4 i) vl vk vo c1 g1 h1 o1
      have hgb := (hLv b hb).2.1
      have hd4 : ∀ j, j < 64 → j ≠ 3 → upd d1 (3 : Int32).toNatClampNeg (nI i) j = cM_d j := fun j hj e => (pk_un e).trans (a4 j hj e)
      rw [br_f1 (show ¬ (9999 : Int32) < nI i from nI_nlt (a := 9999) (by omega) (by decide)), bd_t (show f_X8_look vl vk vo (upd d1 (3 : Int32).toNatClampNeg (nI i)) c1 g1 h1 o1 = _ from hL)]
      dsimp only
      rw [gd_t vb, nI_clamp (by omega), hgb]
      by_cases hq : (f.setSg i).kp b = vv
      · rw [br_t1 (by rw [hq])]
        by_cases h1 : w = 1
        · rw [br_t1 (show nI w = 1 by rw [h1]; rfl)]
          refine ⟨_, ?_, rfl⟩
          exact ⟨rfl, nI_1 i, rfl, hd4, Or.inr ⟨i, by omega, hq, rfl, fun q => absurd q (by omega), fun _ a h1 h2 => absurd h1 (by omega)⟩⟩
        · rw [br_f1 (nI_ne 1 1 h1)]
          rcases a5 with ⟨rfl, b2⟩ | ⟨j, b1, b2, rfl, b4, b5⟩
          · rw [br_f1 (by decide)]
            refine ⟨_, ?_, rfl⟩
            exact ⟨rfl, nI_1 i, rfl, hd4, Or.inr ⟨i, by omega, hq, rfl, fun _ a ha => b2 a ha, fun q => absurd q (by omega)⟩⟩
          · rw [br_t1 (nI_pos' (by omega))]
            refine ⟨_, ?_, rfl⟩
            exact ⟨rfl, nI_1 i, rfl, hd4, Or.inr ⟨j, by omega, b2, rfl, b4, fun q => absurd q h1⟩⟩
      · rw [br_f1 (fun z => hq ((hone i (by omega) 0 (by decide)).mp z))]
        refine ⟨_, ?_, rfl⟩
        refine ⟨rfl, nI_1 i, rfl, hd4, ?_⟩
        rcases a5 with ⟨rfl, b2⟩ | ⟨j, b1, b2, rfl, b4, b5⟩
        · exact Or.inl ⟨rfl, not_s (P := fun i => (f.setSg i).kp b = vv) b2 hq⟩
        · refine Or.inr ⟨j, by omega, b2, rfl, b4, fun q a h1 h2 => ?_⟩
          by_cases e : a = i
          · rw [e]; exact hq
          · exact b5 q a h1 (by omega)
  · rintro u v h1 ⟨h2, h3⟩
    rcases srch_2 h1 h3 with ⟨j, -, ⟨e1, e2⟩, e3, e4⟩ | ⟨⟨e1, e2⟩, e3, e4⟩
    · rw [e2, e4]
      exact ⟨e1.trans e3.symm, ⟨f, hV, hC, MF_cong hn hM h2⟩, hI2, hT, hP, hS⟩
    · rw [e2, e4]
      exact ⟨e1.trans e3.symm, ⟨f, hV, hC, MF_cong hn hM h2⟩, hI2, RT_tell hT 3, hP, hS⟩
