/-! ===== the calls by naturals, one-sided: laying, looking ===== -/
theorem rg_of {a b : Nat} {k : Nat} (h1 : a ≤ k) (h2 : k ≤ b) : rg a b (nI k) := ⟨k, h1, h2, rfl⟩
theorem isb_of {n k : Nat} (h : k < n) : isb n (nI k) := ⟨k, h, rfl⟩
theorem S_basin {f : Fo} {vT_present_basins : Int32} {cT_told : Nat → Int32} {cT_present_kind : Nat → Int32} {cT_present_above : Nat → Int32} {cT_present_edge : Nat → Int32} {cT_present_pool : Nat → Int32} {cT_present_store : Nat → Int32} {cT_present_spot : Nat → Int32} {vT_present_spring : Int32} {vT_present_hour : Int32} {vT_present_z : Int32} {k a : Nat} {x2 : Int32} (hV : VF f) (hC : CF f cT_present_kind cT_present_above cT_present_edge cT_present_pool cT_present_store cT_present_spot vT_present_basins vT_present_spring vT_present_hour vT_present_z) (hk6 : k ≤ 6) (hlt : f.n < 10) (ha : f.n ≠ 0 → a < f.n) (hx : x2 = abI (fset f.ab f.n a) f.n) : ∃ u : Int32 × Int32 × (Nat → Int32) × (Nat → Int32) × (Nat → Int32) × (Nat → Int32) × (Nat → Int32) × (Nat → Int32), f_X7_basin (nI k) x2 vT_present_basins cT_told cT_present_kind cT_present_above cT_present_edge cT_present_pool cT_present_store = some u ∧ (u.1 = nI f.n ∧ CF (f.addB k a) u.2.2.2.1 u.2.2.2.2.1 u.2.2.2.2.2.1 u.2.2.2.2.2.2.1 u.2.2.2.2.2.2.2 cT_present_spot u.2.1 vT_present_spring vT_present_hour vT_present_z)
  := by
  have hn : f.n ≤ 10 := hV.1
  obtain rfl := hC.1
  obtain rfl := hC.2.1
  obtain rfl := hC.2.2.1
  have hG : VG f := VG_of hV
  have hh : f.hr ≤ 9999 := hV.2.2.2.1
  have hp : plc f.n x2 := by
    rw [hx]; unfold abI
    by_cases h0 : f.n = 0
    · rw [if_pos h0]; exact Or.inl ⟨h0, rfl⟩
    · rw [if_neg h0, fset_s]; exact Or.inr ⟨h0, a, ha h0, rfl⟩
  have h7 : f_X7_basin (nI k) x2 (nI f.n) cT_told cT_present_kind cT_present_above cT_present_edge cT_present_pool cT_present_store = f_X7_basin_J28 (nI k) x2 (kI (plc f.n x2)) (nI f.n) cT_told cT_present_kind cT_present_above cT_present_edge cT_present_pool cT_present_store := by
    unfold f_X7_basin
    by_cases h0 : f.n = 0
    · rw [br_t1 ((nI_z (by omega)).mpr h0)]
      by_cases h1 : x2 = -1
      · rw [br_t1 h1, kI_t (show plc f.n x2 from Or.inl ⟨h0, h1⟩)]
      · rw [br_f1 h1, kI_f (show ¬ plc f.n x2 from fun h => h.elim (fun q => h1 q.2) (fun q => q.1 h0))]
    · rw [br_f1 (fun h => h0 ((nI_z (by omega)).mp h)), bd_t (isB7 (n := f.n) (by omega) x2)]
      rw [kI_c (show isb f.n x2 ↔ plc f.n x2 from ⟨fun h => Or.inr ⟨h0, h⟩, fun h => h.elim (fun q => absurd q.1 h0) (fun q => q.2)⟩)]
  have hv : vp_in (nI f.n) 10 := vp_in_nI hlt (by decide)
  have h9 : nI f.n < (10 : Int32) := nI_lt (a := f.n) (b := 10) hlt (by decide)
  have hadd : f_X2_add (nI k) x2 (1 : Int32) (nI f.n) cT_present_kind cT_present_above cT_present_edge cT_present_pool cT_present_store = some (nI f.n, nI f.n + 1, upd cT_present_kind f.n (nI k), upd cT_present_above f.n x2, upd cT_present_edge f.n 1, upd cT_present_pool f.n 0, upd cT_present_store f.n 0) := by
    unfold f_X2_add
    rw [br_f1 (nI_pos (by omega)), br_t1 h9, gd_t hv, gd_t hv, gd_t hv, gd_t hv, gd_t hv, nI_clamp (by omega)]
  rw [h7]
  unfold f_X7_basin_J28
  rw [br_kI, bd_t (isKind_e _), br_kI, br_t1 hp, br_t1 (rg_of (by omega) hk6), br_t1 h9, bd_t hadd]
  exact ⟨_, rfl, rfl, CF_addB hC k a hx⟩
theorem S_chg0 {f : Fo} {vT_present_basins : Int32} {cT_present_kind : Nat → Int32} {cT_told : Nat → Int32} {cT_present_edge : Nat → Int32} {cT_present_pool : Nat → Int32} {cT_present_store : Nat → Int32} {cT_present_above : Nat → Int32} {cT_present_spot : Nat → Int32} {vT_present_spring : Int32} {vT_present_hour : Int32} {vT_present_z : Int32} {j w : Nat} (hV : VF f) (hC : CF f cT_present_kind cT_present_above cT_present_edge cT_present_pool cT_present_store cT_present_spot vT_present_basins vT_present_spring vT_present_hour vT_present_z) (hj : j < f.n) (hw : w ≤ 6) : ∃ u : Int32 × (Nat → Int32) × (Nat → Int32) × (Nat → Int32) × (Nat → Int32) × (Nat → Int32), f_X7_change (nI j) 0 (nI w) vT_present_basins cT_present_kind cT_told cT_present_edge cT_present_pool cT_present_store = some u ∧ (u.1 = nI (f.kd j) ∧ CF (f.setKd j w) u.2.1 cT_present_above u.2.2.2.1 u.2.2.2.2.1 u.2.2.2.2.2 cT_present_spot vT_present_basins vT_present_spring vT_present_hour vT_present_z)
  := by
  have hn : f.n ≤ 10 := hV.1
  obtain rfl := hC.1
  obtain rfl := hC.2.1
  obtain rfl := hC.2.2.1
  have hG : VG f := VG_of hV
  have hh : f.hr ≤ 9999 := hV.2.2.2.1
  have hB := hC.2.2.2.2.1 j hj
  unfold f_X7_change
  rw [bd_t (isB7 (n := f.n) (by omega) _), br_kI, br_t1 (isb_of hj), br_t1 rfl, bd_t (put_t (A := 0) (B := 6) (a := 0) (b := 6) (j := j) (by omega) (nI w) cT_present_kind cT_told rfl rfl (rg_of (by omega) hw) (by decide) (by decide))]
  exact ⟨_, rfl, hB.1, CF_Kd hC j w⟩
theorem S_chg2 {f : Fo} {vT_present_basins : Int32} {cT_present_kind : Nat → Int32} {cT_told : Nat → Int32} {cT_present_edge : Nat → Int32} {cT_present_pool : Nat → Int32} {cT_present_store : Nat → Int32} {cT_present_above : Nat → Int32} {cT_present_spot : Nat → Int32} {vT_present_spring : Int32} {vT_present_hour : Int32} {vT_present_z : Int32} {j w : Nat} (hV : VF f) (hC : CF f cT_present_kind cT_present_above cT_present_edge cT_present_pool cT_present_store cT_present_spot vT_present_basins vT_present_spring vT_present_hour vT_present_z) (hj : j < f.n) (hw1 : 1 ≤ w) (hw : w ≤ 9) : ∃ u : Int32 × (Nat → Int32) × (Nat → Int32) × (Nat → Int32) × (Nat → Int32) × (Nat → Int32), f_X7_change (nI j) 2 (nI w) vT_present_basins cT_present_kind cT_told cT_present_edge cT_present_pool cT_present_store = some u ∧ (u.1 = nI (f.ed j) ∧ CF (f.setEd j w) u.2.1 cT_present_above u.2.2.2.1 u.2.2.2.2.1 u.2.2.2.2.2 cT_present_spot vT_present_basins vT_present_spring vT_present_hour vT_present_z)
  := by
  have hn : f.n ≤ 10 := hV.1
  obtain rfl := hC.1
  obtain rfl := hC.2.1
  obtain rfl := hC.2.2.1
  have hG : VG f := VG_of hV
  have hh : f.hr ≤ 9999 := hV.2.2.2.1
  have hB := hC.2.2.2.2.1 j hj
  unfold f_X7_change
  rw [bd_t (isB7 (n := f.n) (by omega) _), br_kI, br_t1 (isb_of hj), br_f1 (by decide), br_f1 (by decide), br_t1 rfl, bd_t (put_t (A := 1) (B := 9) (a := 1) (b := 9) (j := j) (by omega) (nI w) cT_present_edge cT_told rfl rfl (rg_of hw1 hw) (by decide) (by decide))]
  exact ⟨_, rfl, hB.2.2.1, CF_Ed hC j w⟩
theorem S_chg3 {f : Fo} {vT_present_basins : Int32} {cT_present_kind : Nat → Int32} {cT_told : Nat → Int32} {cT_present_edge : Nat → Int32} {cT_present_pool : Nat → Int32} {cT_present_store : Nat → Int32} {cT_present_above : Nat → Int32} {cT_present_spot : Nat → Int32} {vT_present_spring : Int32} {vT_present_hour : Int32} {vT_present_z : Int32} {j w : Nat} (hV : VF f) (hC : CF f cT_present_kind cT_present_above cT_present_edge cT_present_pool cT_present_store cT_present_spot vT_present_basins vT_present_spring vT_present_hour vT_present_z) (hj : j < f.n) (hw : w ≤ 30) : ∃ u : Int32 × (Nat → Int32) × (Nat → Int32) × (Nat → Int32) × (Nat → Int32) × (Nat → Int32), f_X7_change (nI j) 3 (nI w) vT_present_basins cT_present_kind cT_told cT_present_edge cT_present_pool cT_present_store = some u ∧ (u.1 = nI (f.po j) ∧ CF (f.setPo j w) u.2.1 cT_present_above u.2.2.2.1 u.2.2.2.2.1 u.2.2.2.2.2 cT_present_spot vT_present_basins vT_present_spring vT_present_hour vT_present_z)
  := by
  have hn : f.n ≤ 10 := hV.1
  obtain rfl := hC.1
  obtain rfl := hC.2.1
  obtain rfl := hC.2.2.1
  have hG : VG f := VG_of hV
  have hh : f.hr ≤ 9999 := hV.2.2.2.1
  have hB := hC.2.2.2.2.1 j hj
  unfold f_X7_change
  rw [bd_t (isB7 (n := f.n) (by omega) _), br_kI, br_t1 (isb_of hj), br_f1 (by decide), br_f1 (by decide), br_f1 (by decide), br_t1 rfl, bd_t (put_t (A := 0) (B := 30) (a := 0) (b := 30) (j := j) (by omega) (nI w) cT_present_pool cT_told rfl rfl (rg_of (by omega) hw) (by decide) (by decide))]
  exact ⟨_, rfl, hB.2.2.2.1, CF_Po hC j w⟩
theorem S_join {f : Fo} {vT_present_basins : Int32} {cT_told : Nat → Int32} {cT_present_above : Nat → Int32} {cT_present_kind : Nat → Int32} {cT_present_edge : Nat → Int32} {cT_present_pool : Nat → Int32} {cT_present_store : Nat → Int32} {cT_present_spot : Nat → Int32} {vT_present_spring : Int32} {vT_present_hour : Int32} {vT_present_z : Int32} {j a : Nat} (hV : VF f) (hC : CF f cT_present_kind cT_present_above cT_present_edge cT_present_pool cT_present_store cT_present_spot vT_present_basins vT_present_spring vT_present_hour vT_present_z) (hj : j < f.n) (ha : a < j) : ∃ u : Int32 × (Nat → Int32) × (Nat → Int32), f_X7_join (nI j) (nI a) vT_present_basins cT_told cT_present_above = some u ∧ (u.1 = nI (f.ab j) ∧ CF (f.setAb j a) cT_present_kind u.2.2 cT_present_edge cT_present_pool cT_present_store cT_present_spot vT_present_basins vT_present_spring vT_present_hour vT_present_z)
  := by
  have hn : f.n ≤ 10 := hV.1
  obtain rfl := hC.1
  obtain rfl := hC.2.1
  obtain rfl := hC.2.2.1
  have hG : VG f := VG_of hV
  have hh : f.hr ≤ 9999 := hV.2.2.2.1
  have hB := (hC.2.2.2.2.1 j hj).2.1
  rw [abI_s _ (by omega)] at hB
  have hvp : vp_in (nI j) 10 := vp_in_nI (by omega) (by decide)
  unfold f_X7_join
  rw [bd_t (isB7 (n := f.n) (by omega) _), br_kI, br_t1 (isb_of hj), br_f1 (nI_pos (by omega)), br_t1 (nI_lt ha (by omega)), gd_t hvp, nm_q, gd_t hvp, nI_clamp (by omega)]
  exact ⟨_, rfl, hB, CF_Ab hC (by omega) a⟩
theorem S_spring {f : Fo} {vT_present_spring : Int32} {cT_told : Nat → Int32} {cT_present_kind : Nat → Int32} {cT_present_above : Nat → Int32} {cT_present_edge : Nat → Int32} {cT_present_pool : Nat → Int32} {cT_present_store : Nat → Int32} {cT_present_spot : Nat → Int32} {vT_present_basins : Int32} {vT_present_hour : Int32} {vT_present_z : Int32} {v : Nat} (hV : VF f) (hC : CF f cT_present_kind cT_present_above cT_present_edge cT_present_pool cT_present_store cT_present_spot vT_present_basins vT_present_spring vT_present_hour vT_present_z) (hv : v ≤ 99999) : ∃ u : Int32 × Int32 × (Nat → Int32), f_X7_spring (nI v) vT_present_spring cT_told = some u ∧ (u.1 = nI f.sg ∧ CF (f.setSg v) cT_present_kind cT_present_above cT_present_edge cT_present_pool cT_present_store cT_present_spot vT_present_basins u.2.1 vT_present_hour vT_present_z)
  := by
  have hn : f.n ≤ 10 := hV.1
  obtain rfl := hC.1
  obtain rfl := hC.2.1
  obtain rfl := hC.2.2.1
  have hG : VG f := VG_of hV
  have hh : f.hr ≤ 9999 := hV.2.2.2.1
  have h1 : f_X7_within (nI v) (0 : Int32) (99999 : Int32) = some (kI (rg 0 99999 (nI v))) := within_n (by decide) (by decide) _
  unfold f_X7_spring
  rw [bd_t h1, br_kI, br_t1 (rg_of (by omega) hv)]
  exact ⟨_, rfl, rfl, CF_Sg hC v⟩
theorem S_of0 {f : Fo} {vT_present_basins : Int32} {vT_present_spring : Int32} {cT_present_kind : Nat → Int32} {cT_present_above : Nat → Int32} {cT_present_edge : Nat → Int32} {cT_present_pool : Nat → Int32} {cT_present_store : Nat → Int32} {vT_flow_kept : Int32} {vT_flow_leaked : Int32} {vT_flow_ranOff : Int32} {vT_flow_uneven : Int32} {cT_flow_width : Nat → Int32} {cT_flow_goesOn : Nat → Int32} {cT_flow_comes : Nat → Int32} {cT_flow_keeps : Nat → Int32} {cT_flow_holds : Nat → Int32} {cT_told : Nat → Int32} {cT_present_spot : Nat → Int32} {vT_present_hour : Int32} {vT_present_z : Int32} {b : Nat} (hV : VF f) (hC : CF f cT_present_kind cT_present_above cT_present_edge cT_present_pool cT_present_store cT_present_spot vT_present_basins vT_present_spring vT_present_hour vT_present_z) (hb : b < f.n) : ∃ u : Int32 × Int32 × Int32 × Int32 × Int32 × (Nat → Int32) × (Nat → Int32) × (Nat → Int32) × (Nat → Int32) × (Nat → Int32) × (Nat → Int32), f_X7_of (nI b) 0 vT_present_basins vT_present_spring cT_present_kind cT_present_above cT_present_edge cT_present_pool cT_present_store vT_flow_kept vT_flow_leaked vT_flow_ranOff vT_flow_uneven cT_flow_width cT_flow_goesOn cT_flow_comes cT_flow_keeps cT_flow_holds cT_told = some u ∧ (u.1 = nI (f.kd b))
  := by
  have hn : f.n ≤ 10 := hV.1
  obtain rfl := hC.1
  obtain rfl := hC.2.1
  obtain rfl := hC.2.2.1
  have hG : VG f := VG_of hV
  have hh : f.hr ≤ 9999 := hV.2.2.2.1
  have v : vp_in (nI b) 10 := vp_in_nI (by omega) (by decide)
  obtain ⟨c1, c2, c3, c4, c5⟩ := hC.2.2.2.2.1 b hb
  unfold f_X7_of
  rw [bd_t (isB7 (by omega) _), br_kI, br_t1 (isb_of hb), br_t1 rfl, gd_t v, nI_clamp (by omega)]
  exact ⟨_, rfl, c1⟩
theorem S_of1 {f : Fo} {vT_present_basins : Int32} {vT_present_spring : Int32} {cT_present_kind : Nat → Int32} {cT_present_above : Nat → Int32} {cT_present_edge : Nat → Int32} {cT_present_pool : Nat → Int32} {cT_present_store : Nat → Int32} {vT_flow_kept : Int32} {vT_flow_leaked : Int32} {vT_flow_ranOff : Int32} {vT_flow_uneven : Int32} {cT_flow_width : Nat → Int32} {cT_flow_goesOn : Nat → Int32} {cT_flow_comes : Nat → Int32} {cT_flow_keeps : Nat → Int32} {cT_flow_holds : Nat → Int32} {cT_told : Nat → Int32} {cT_present_spot : Nat → Int32} {vT_present_hour : Int32} {vT_present_z : Int32} {b : Nat} (hV : VF f) (hC : CF f cT_present_kind cT_present_above cT_present_edge cT_present_pool cT_present_store cT_present_spot vT_present_basins vT_present_spring vT_present_hour vT_present_z) (hb : b < f.n) : ∃ u : Int32 × Int32 × Int32 × Int32 × Int32 × (Nat → Int32) × (Nat → Int32) × (Nat → Int32) × (Nat → Int32) × (Nat → Int32) × (Nat → Int32), f_X7_of (nI b) 1 vT_present_basins vT_present_spring cT_present_kind cT_present_above cT_present_edge cT_present_pool cT_present_store vT_flow_kept vT_flow_leaked vT_flow_ranOff vT_flow_uneven cT_flow_width cT_flow_goesOn cT_flow_comes cT_flow_keeps cT_flow_holds cT_told = some u ∧ (u.1 = abI f.ab b)
  := by
  have hn : f.n ≤ 10 := hV.1
  obtain rfl := hC.1
  obtain rfl := hC.2.1
  obtain rfl := hC.2.2.1
  have hG : VG f := VG_of hV
  have hh : f.hr ≤ 9999 := hV.2.2.2.1
  have v : vp_in (nI b) 10 := vp_in_nI (by omega) (by decide)
  obtain ⟨c1, c2, c3, c4, c5⟩ := hC.2.2.2.2.1 b hb
  unfold f_X7_of
  rw [bd_t (isB7 (by omega) _), br_kI, br_t1 (isb_of hb), br_f1 (by decide), br_t1 rfl, gd_t v, nI_clamp (by omega)]
  exact ⟨_, rfl, c2⟩
theorem S_of3 {f : Fo} {vT_present_basins : Int32} {vT_present_spring : Int32} {cT_present_kind : Nat → Int32} {cT_present_above : Nat → Int32} {cT_present_edge : Nat → Int32} {cT_present_pool : Nat → Int32} {cT_present_store : Nat → Int32} {vT_flow_kept : Int32} {vT_flow_leaked : Int32} {vT_flow_ranOff : Int32} {vT_flow_uneven : Int32} {cT_flow_width : Nat → Int32} {cT_flow_goesOn : Nat → Int32} {cT_flow_comes : Nat → Int32} {cT_flow_keeps : Nat → Int32} {cT_flow_holds : Nat → Int32} {cT_told : Nat → Int32} {cT_present_spot : Nat → Int32} {vT_present_hour : Int32} {vT_present_z : Int32} {b : Nat} (hV : VF f) (hC : CF f cT_present_kind cT_present_above cT_present_edge cT_present_pool cT_present_store cT_present_spot vT_present_basins vT_present_spring vT_present_hour vT_present_z) (hb : b < f.n) : ∃ u : Int32 × Int32 × Int32 × Int32 × Int32 × (Nat → Int32) × (Nat → Int32) × (Nat → Int32) × (Nat → Int32) × (Nat → Int32) × (Nat → Int32), f_X7_of (nI b) 3 vT_present_basins vT_present_spring cT_present_kind cT_present_above cT_present_edge cT_present_pool cT_present_store vT_flow_kept vT_flow_leaked vT_flow_ranOff vT_flow_uneven cT_flow_width cT_flow_goesOn cT_flow_comes cT_flow_keeps cT_flow_holds cT_told = some u ∧ (u.1 = nI (f.po b))
  := by
  have hn : f.n ≤ 10 := hV.1
  obtain rfl := hC.1
  obtain rfl := hC.2.1
  obtain rfl := hC.2.2.1
  have hG : VG f := VG_of hV
  have hh : f.hr ≤ 9999 := hV.2.2.2.1
  have v : vp_in (nI b) 10 := vp_in_nI (by omega) (by decide)
  obtain ⟨c1, c2, c3, c4, c5⟩ := hC.2.2.2.2.1 b hb
  unfold f_X7_of
  rw [bd_t (isB7 (by omega) _), br_kI, br_t1 (isb_of hb), br_f1 (by decide), br_f1 (by decide), br_f1 (by decide), br_t1 rfl, gd_t v, nI_clamp (by omega)]
  exact ⟨_, rfl, c4⟩
theorem S_of4 {f : Fo} {vT_present_basins : Int32} {vT_present_spring : Int32} {cT_present_kind : Nat → Int32} {cT_present_above : Nat → Int32} {cT_present_edge : Nat → Int32} {cT_present_pool : Nat → Int32} {cT_present_store : Nat → Int32} {vT_flow_kept : Int32} {vT_flow_leaked : Int32} {vT_flow_ranOff : Int32} {vT_flow_uneven : Int32} {cT_flow_width : Nat → Int32} {cT_flow_goesOn : Nat → Int32} {cT_flow_comes : Nat → Int32} {cT_flow_keeps : Nat → Int32} {cT_flow_holds : Nat → Int32} {cT_told : Nat → Int32} {cT_present_spot : Nat → Int32} {vT_present_hour : Int32} {vT_present_z : Int32} {b : Nat} (hV : VF f) (hC : CF f cT_present_kind cT_present_above cT_present_edge cT_present_pool cT_present_store cT_present_spot vT_present_basins vT_present_spring vT_present_hour vT_present_z) (hb : b < f.n) : ∃ u : Int32 × Int32 × Int32 × Int32 × Int32 × (Nat → Int32) × (Nat → Int32) × (Nat → Int32) × (Nat → Int32) × (Nat → Int32) × (Nat → Int32), f_X7_of (nI b) 4 vT_present_basins vT_present_spring cT_present_kind cT_present_above cT_present_edge cT_present_pool cT_present_store vT_flow_kept vT_flow_leaked vT_flow_ranOff vT_flow_uneven cT_flow_width cT_flow_goesOn cT_flow_comes cT_flow_keeps cT_flow_holds cT_told = some u ∧ (u.1 = f.st b)
  := by
  have hn : f.n ≤ 10 := hV.1
  obtain rfl := hC.1
  obtain rfl := hC.2.1
  obtain rfl := hC.2.2.1
  have hG : VG f := VG_of hV
  have hh : f.hr ≤ 9999 := hV.2.2.2.1
  have v : vp_in (nI b) 10 := vp_in_nI (by omega) (by decide)
  obtain ⟨c1, c2, c3, c4, c5⟩ := hC.2.2.2.2.1 b hb
  unfold f_X7_of
  rw [bd_t (isB7 (by omega) _), br_kI, br_t1 (isb_of hb), br_f1 (by decide), br_f1 (by decide), br_f1 (by decide), br_f1 (by decide), br_t1 rfl, gd_t v, nI_clamp (by omega)]
  exact ⟨_, rfl, c5⟩
theorem S_of5 {f : Fo} {vT_present_basins : Int32} {vT_present_spring : Int32} {cT_present_kind : Nat → Int32} {cT_present_above : Nat → Int32} {cT_present_edge : Nat → Int32} {cT_present_pool : Nat → Int32} {cT_present_store : Nat → Int32} {vT_flow_kept : Int32} {vT_flow_leaked : Int32} {vT_flow_ranOff : Int32} {vT_flow_uneven : Int32} {cT_flow_width : Nat → Int32} {cT_flow_goesOn : Nat → Int32} {cT_flow_comes : Nat → Int32} {cT_flow_keeps : Nat → Int32} {cT_flow_holds : Nat → Int32} {cT_told : Nat → Int32} {cT_present_spot : Nat → Int32} {vT_present_hour : Int32} {vT_present_z : Int32} {b : Nat} (hV : VF f) (hC : CF f cT_present_kind cT_present_above cT_present_edge cT_present_pool cT_present_store cT_present_spot vT_present_basins vT_present_spring vT_present_hour vT_present_z) (hb : b < f.n) : ∃ u : Int32 × Int32 × Int32 × Int32 × Int32 × (Nat → Int32) × (Nat → Int32) × (Nat → Int32) × (Nat → Int32) × (Nat → Int32) × (Nat → Int32), f_X7_of (nI b) 5 vT_present_basins vT_present_spring cT_present_kind cT_present_above cT_present_edge cT_present_pool cT_present_store vT_flow_kept vT_flow_leaked vT_flow_ranOff vT_flow_uneven cT_flow_width cT_flow_goesOn cT_flow_comes cT_flow_keeps cT_flow_holds cT_told = some u ∧ (u.1 = nI (f.cm b))
  := by
  have hn : f.n ≤ 10 := hV.1
  obtain rfl := hC.1
  obtain rfl := hC.2.1
  obtain rfl := hC.2.2.1
  have hG : VG f := VG_of hV
  have hh : f.hr ≤ 9999 := hV.2.2.2.1
  have v : vp_in (nI b) 10 := vp_in_nI (by omega) (by decide)
  obtain ⟨rw', rg', rc', rk', rh', hR, hRv⟩ := reckon_e hG (CG_of hC) vT_flow_kept vT_flow_leaked vT_flow_ranOff vT_flow_uneven cT_flow_width cT_flow_goesOn cT_flow_comes cT_flow_keeps cT_flow_holds
  unfold f_X7_of
  rw [bd_t (isB7 (by omega) _), br_kI, br_t1 (isb_of hb), br_f1 (by decide), br_f1 (by decide), br_f1 (by decide), br_f1 (by decide), br_f1 (by decide), br_t1 rfl, bd_t hR, gd_t v, nI_clamp (by omega)]
  exact ⟨_, rfl, (hRv b hb).1⟩
theorem S_of6 {f : Fo} {vT_present_basins : Int32} {vT_present_spring : Int32} {cT_present_kind : Nat → Int32} {cT_present_above : Nat → Int32} {cT_present_edge : Nat → Int32} {cT_present_pool : Nat → Int32} {cT_present_store : Nat → Int32} {vT_flow_kept : Int32} {vT_flow_leaked : Int32} {vT_flow_ranOff : Int32} {vT_flow_uneven : Int32} {cT_flow_width : Nat → Int32} {cT_flow_goesOn : Nat → Int32} {cT_flow_comes : Nat → Int32} {cT_flow_keeps : Nat → Int32} {cT_flow_holds : Nat → Int32} {cT_told : Nat → Int32} {cT_present_spot : Nat → Int32} {vT_present_hour : Int32} {vT_present_z : Int32} {b : Nat} (hV : VF f) (hC : CF f cT_present_kind cT_present_above cT_present_edge cT_present_pool cT_present_store cT_present_spot vT_present_basins vT_present_spring vT_present_hour vT_present_z) (hb : b < f.n) : ∃ u : Int32 × Int32 × Int32 × Int32 × Int32 × (Nat → Int32) × (Nat → Int32) × (Nat → Int32) × (Nat → Int32) × (Nat → Int32) × (Nat → Int32), f_X7_of (nI b) 6 vT_present_basins vT_present_spring cT_present_kind cT_present_above cT_present_edge cT_present_pool cT_present_store vT_flow_kept vT_flow_leaked vT_flow_ranOff vT_flow_uneven cT_flow_width cT_flow_goesOn cT_flow_comes cT_flow_keeps cT_flow_holds cT_told = some u ∧ (u.1 = nI (f.kp b))
  := by
  have hn : f.n ≤ 10 := hV.1
  obtain rfl := hC.1
  obtain rfl := hC.2.1
  obtain rfl := hC.2.2.1
  have hG : VG f := VG_of hV
  have hh : f.hr ≤ 9999 := hV.2.2.2.1
  have v : vp_in (nI b) 10 := vp_in_nI (by omega) (by decide)
  obtain ⟨rw', rg', rc', rk', rh', hR, hRv⟩ := reckon_e hG (CG_of hC) vT_flow_kept vT_flow_leaked vT_flow_ranOff vT_flow_uneven cT_flow_width cT_flow_goesOn cT_flow_comes cT_flow_keeps cT_flow_holds
  unfold f_X7_of
  rw [bd_t (isB7 (by omega) _), br_kI, br_t1 (isb_of hb), br_f1 (by decide), br_f1 (by decide), br_f1 (by decide), br_f1 (by decide), br_f1 (by decide), br_f1 (by decide), br_t1 rfl, bd_t hR, gd_t v, nI_clamp (by omega)]
  exact ⟨_, rfl, (hRv b hb).2.1⟩
theorem S_count1 {f : Fo} {vT_present_basins : Int32} {vT_present_spring : Int32} {vT_present_hour : Int32} {vT_present_z : Int32} {cT_present_edge : Nat → Int32} {cT_present_pool : Nat → Int32} {vT_tape_size : Int32} {cT_present_spot : Nat → Int32} {cT_told : Nat → Int32} {cT_present_kind : Nat → Int32} {cT_present_above : Nat → Int32} {cT_present_store : Nat → Int32} (hV : VF f) (hC : CF f cT_present_kind cT_present_above cT_present_edge cT_present_pool cT_present_store cT_present_spot vT_present_basins vT_present_spring vT_present_hour vT_present_z) : ∃ u : Int32 × (Nat → Int32), f_X7_count 1 vT_present_basins vT_present_spring vT_present_hour vT_present_z cT_present_edge cT_present_pool vT_tape_size cT_present_spot cT_told = some u ∧ (u.1 = nI f.n)
  := by
  have hn : f.n ≤ 10 := hV.1
  obtain rfl := hC.1
  obtain rfl := hC.2.1
  obtain rfl := hC.2.2.1
  have hG : VG f := VG_of hV
  have hh : f.hr ≤ 9999 := hV.2.2.2.1
  unfold f_X7_count
  rw [br_f1 (by decide), br_t1 rfl]
  exact ⟨_, rfl, rfl⟩
theorem S_now1 {f : Fo} {vT_present_basins : Int32} {vT_present_spring : Int32} {vT_present_hour : Int32} {cT_present_store : Nat → Int32} {cT_present_pool : Nat → Int32} {vT_flow_kept : Int32} {vT_flow_leaked : Int32} {vT_flow_ranOff : Int32} {vT_flow_uneven : Int32} {cT_flow_width : Nat → Int32} {cT_present_above : Nat → Int32} {cT_present_edge : Nat → Int32} {cT_flow_goesOn : Nat → Int32} {cT_flow_comes : Nat → Int32} {cT_present_kind : Nat → Int32} {cT_flow_keeps : Nat → Int32} {cT_flow_holds : Nat → Int32} {cT_told : Nat → Int32} {cT_present_spot : Nat → Int32} {vT_present_z : Int32} (hV : VF f) (hC : CF f cT_present_kind cT_present_above cT_present_edge cT_present_pool cT_present_store cT_present_spot vT_present_basins vT_present_spring vT_present_hour vT_present_z) : ∃ u : Int32 × Int32 × Int32 × Int32 × Int32 × (Nat → Int32) × (Nat → Int32) × (Nat → Int32) × (Nat → Int32) × (Nat → Int32) × (Nat → Int32), f_X7_now 1 vT_present_basins vT_present_spring vT_present_hour cT_present_store cT_present_pool vT_flow_kept vT_flow_leaked vT_flow_ranOff vT_flow_uneven cT_flow_width cT_present_above cT_present_edge cT_flow_goesOn cT_flow_comes cT_present_kind cT_flow_keeps cT_flow_holds cT_told = some u ∧ (u.1 = nI f.sg)
  := by
  have hn : f.n ≤ 10 := hV.1
  obtain rfl := hC.1
  obtain rfl := hC.2.1
  obtain rfl := hC.2.2.1
  have hG : VG f := VG_of hV
  have hh : f.hr ≤ 9999 := hV.2.2.2.1
  unfold f_X7_now
  rw [br_f1 (by decide), br_t1 rfl]
  exact ⟨_, rfl, rfl⟩
theorem S_now2 {f : Fo} {vT_present_basins : Int32} {vT_present_spring : Int32} {vT_present_hour : Int32} {cT_present_store : Nat → Int32} {cT_present_pool : Nat → Int32} {vT_flow_kept : Int32} {vT_flow_leaked : Int32} {vT_flow_ranOff : Int32} {vT_flow_uneven : Int32} {cT_flow_width : Nat → Int32} {cT_present_above : Nat → Int32} {cT_present_edge : Nat → Int32} {cT_flow_goesOn : Nat → Int32} {cT_flow_comes : Nat → Int32} {cT_present_kind : Nat → Int32} {cT_flow_keeps : Nat → Int32} {cT_flow_holds : Nat → Int32} {cT_told : Nat → Int32} {cT_present_spot : Nat → Int32} {vT_present_z : Int32} (hV : VF f) (hC : CF f cT_present_kind cT_present_above cT_present_edge cT_present_pool cT_present_store cT_present_spot vT_present_basins vT_present_spring vT_present_hour vT_present_z) : ∃ u : Int32 × Int32 × Int32 × Int32 × Int32 × (Nat → Int32) × (Nat → Int32) × (Nat → Int32) × (Nat → Int32) × (Nat → Int32) × (Nat → Int32), f_X7_now 2 vT_present_basins vT_present_spring vT_present_hour cT_present_store cT_present_pool vT_flow_kept vT_flow_leaked vT_flow_ranOff vT_flow_uneven cT_flow_width cT_present_above cT_present_edge cT_flow_goesOn cT_flow_comes cT_present_kind cT_flow_keeps cT_flow_holds cT_told = some u ∧ (u.1 = sumI f.st f.n)
  := by
  have hn : f.n ≤ 10 := hV.1
  obtain rfl := hC.1
  obtain rfl := hC.2.1
  obtain rfl := hC.2.2.1
  have hG : VG f := VG_of hV
  have hh : f.hr ≤ 9999 := hV.2.2.2.1
  unfold f_X7_now
  rw [br_f1 (by decide), br_f1 (by decide), br_t1 rfl, bd_t (sum7 hn _)]
  exact ⟨_, rfl, sumI_cong fun k hk => (hC.2.2.2.2.1 k hk).2.2.2.2⟩
theorem S_now3 {f : Fo} {vT_present_basins : Int32} {vT_present_spring : Int32} {vT_present_hour : Int32} {cT_present_store : Nat → Int32} {cT_present_pool : Nat → Int32} {vT_flow_kept : Int32} {vT_flow_leaked : Int32} {vT_flow_ranOff : Int32} {vT_flow_uneven : Int32} {cT_flow_width : Nat → Int32} {cT_present_above : Nat → Int32} {cT_present_edge : Nat → Int32} {cT_flow_goesOn : Nat → Int32} {cT_flow_comes : Nat → Int32} {cT_present_kind : Nat → Int32} {cT_flow_keeps : Nat → Int32} {cT_flow_holds : Nat → Int32} {cT_told : Nat → Int32} {cT_present_spot : Nat → Int32} {vT_present_z : Int32} (hV : VF f) (hC : CF f cT_present_kind cT_present_above cT_present_edge cT_present_pool cT_present_store cT_present_spot vT_present_basins vT_present_spring vT_present_hour vT_present_z) : ∃ u : Int32 × Int32 × Int32 × Int32 × Int32 × (Nat → Int32) × (Nat → Int32) × (Nat → Int32) × (Nat → Int32) × (Nat → Int32) × (Nat → Int32), f_X7_now 3 vT_present_basins vT_present_spring vT_present_hour cT_present_store cT_present_pool vT_flow_kept vT_flow_leaked vT_flow_ranOff vT_flow_uneven cT_flow_width cT_present_above cT_present_edge cT_flow_goesOn cT_flow_comes cT_present_kind cT_flow_keeps cT_flow_holds cT_told = some u ∧ (u.1 = nI (sumN f.po f.n))
  := by
  have hn : f.n ≤ 10 := hV.1
  obtain rfl := hC.1
  obtain rfl := hC.2.1
  obtain rfl := hC.2.2.1
  have hG : VG f := VG_of hV
  have hh : f.hr ≤ 9999 := hV.2.2.2.1
  unfold f_X7_now
  rw [br_f1 (by decide), br_f1 (by decide), br_f1 (by decide), br_t1 rfl, bd_t (sum7 hn _)]
  exact ⟨_, rfl, (sumI_cong fun k hk => (hC.2.2.2.2.1 k hk).2.2.2.1).trans (sumI_nI f.po f.n)⟩
theorem S_now4 {f : Fo} {vT_present_basins : Int32} {vT_present_spring : Int32} {vT_present_hour : Int32} {cT_present_store : Nat → Int32} {cT_present_pool : Nat → Int32} {vT_flow_kept : Int32} {vT_flow_leaked : Int32} {vT_flow_ranOff : Int32} {vT_flow_uneven : Int32} {cT_flow_width : Nat → Int32} {cT_present_above : Nat → Int32} {cT_present_edge : Nat → Int32} {cT_flow_goesOn : Nat → Int32} {cT_flow_comes : Nat → Int32} {cT_present_kind : Nat → Int32} {cT_flow_keeps : Nat → Int32} {cT_flow_holds : Nat → Int32} {cT_told : Nat → Int32} {cT_present_spot : Nat → Int32} {vT_present_z : Int32} (hV : VF f) (hC : CF f cT_present_kind cT_present_above cT_present_edge cT_present_pool cT_present_store cT_present_spot vT_present_basins vT_present_spring vT_present_hour vT_present_z) : ∃ u : Int32 × Int32 × Int32 × Int32 × Int32 × (Nat → Int32) × (Nat → Int32) × (Nat → Int32) × (Nat → Int32) × (Nat → Int32) × (Nat → Int32), f_X7_now 4 vT_present_basins vT_present_spring vT_present_hour cT_present_store cT_present_pool vT_flow_kept vT_flow_leaked vT_flow_ranOff vT_flow_uneven cT_flow_width cT_present_above cT_present_edge cT_flow_goesOn cT_flow_comes cT_present_kind cT_flow_keeps cT_flow_holds cT_told = some u ∧ (u.1 = nI f.roS)
  := by
  have hn : f.n ≤ 10 := hV.1
  obtain rfl := hC.1
  obtain rfl := hC.2.1
  obtain rfl := hC.2.2.1
  have hG : VG f := VG_of hV
  have hh : f.hr ≤ 9999 := hV.2.2.2.1
  obtain ⟨rw', rg', rc', rk', rh', hR, hRv⟩ := reckon_e hG (CG_of hC) vT_flow_kept vT_flow_leaked vT_flow_ranOff vT_flow_uneven cT_flow_width cT_flow_goesOn cT_flow_comes cT_flow_keeps cT_flow_holds
  unfold f_X7_now
  rw [br_f1 (by decide), br_f1 (by decide), br_f1 (by decide), br_f1 (by decide), br_t1 rfl, bd_t hR]
  exact ⟨_, rfl, rfl⟩
theorem S_now5 {f : Fo} {vT_present_basins : Int32} {vT_present_spring : Int32} {vT_present_hour : Int32} {cT_present_store : Nat → Int32} {cT_present_pool : Nat → Int32} {vT_flow_kept : Int32} {vT_flow_leaked : Int32} {vT_flow_ranOff : Int32} {vT_flow_uneven : Int32} {cT_flow_width : Nat → Int32} {cT_present_above : Nat → Int32} {cT_present_edge : Nat → Int32} {cT_flow_goesOn : Nat → Int32} {cT_flow_comes : Nat → Int32} {cT_present_kind : Nat → Int32} {cT_flow_keeps : Nat → Int32} {cT_flow_holds : Nat → Int32} {cT_told : Nat → Int32} {cT_present_spot : Nat → Int32} {vT_present_z : Int32} (hV : VF f) (hC : CF f cT_present_kind cT_present_above cT_present_edge cT_present_pool cT_present_store cT_present_spot vT_present_basins vT_present_spring vT_present_hour vT_present_z) : ∃ u : Int32 × Int32 × Int32 × Int32 × Int32 × (Nat → Int32) × (Nat → Int32) × (Nat → Int32) × (Nat → Int32) × (Nat → Int32) × (Nat → Int32), f_X7_now 5 vT_present_basins vT_present_spring vT_present_hour cT_present_store cT_present_pool vT_flow_kept vT_flow_leaked vT_flow_ranOff vT_flow_uneven cT_flow_width cT_present_above cT_present_edge cT_flow_goesOn cT_flow_comes cT_present_kind cT_flow_keeps cT_flow_holds cT_told = some u ∧ (u.1 = nI f.lkS)
  := by
  have hn : f.n ≤ 10 := hV.1
  obtain rfl := hC.1
  obtain rfl := hC.2.1
  obtain rfl := hC.2.2.1
  have hG : VG f := VG_of hV
  have hh : f.hr ≤ 9999 := hV.2.2.2.1
  obtain ⟨rw', rg', rc', rk', rh', hR, hRv⟩ := reckon_e hG (CG_of hC) vT_flow_kept vT_flow_leaked vT_flow_ranOff vT_flow_uneven cT_flow_width cT_flow_goesOn cT_flow_comes cT_flow_keeps cT_flow_holds
  unfold f_X7_now
  rw [br_f1 (by decide), br_f1 (by decide), br_f1 (by decide), br_f1 (by decide), br_f1 (by decide), br_t1 rfl, bd_t hR]
  exact ⟨_, rfl, rfl⟩
theorem S_now6 {f : Fo} {vT_present_basins : Int32} {vT_present_spring : Int32} {vT_present_hour : Int32} {cT_present_store : Nat → Int32} {cT_present_pool : Nat → Int32} {vT_flow_kept : Int32} {vT_flow_leaked : Int32} {vT_flow_ranOff : Int32} {vT_flow_uneven : Int32} {cT_flow_width : Nat → Int32} {cT_present_above : Nat → Int32} {cT_present_edge : Nat → Int32} {cT_flow_goesOn : Nat → Int32} {cT_flow_comes : Nat → Int32} {cT_present_kind : Nat → Int32} {cT_flow_keeps : Nat → Int32} {cT_flow_holds : Nat → Int32} {cT_told : Nat → Int32} {cT_present_spot : Nat → Int32} {vT_present_z : Int32} (hV : VF f) (hC : CF f cT_present_kind cT_present_above cT_present_edge cT_present_pool cT_present_store cT_present_spot vT_present_basins vT_present_spring vT_present_hour vT_present_z) : ∃ u : Int32 × Int32 × Int32 × Int32 × Int32 × (Nat → Int32) × (Nat → Int32) × (Nat → Int32) × (Nat → Int32) × (Nat → Int32) × (Nat → Int32), f_X7_now 6 vT_present_basins vT_present_spring vT_present_hour cT_present_store cT_present_pool vT_flow_kept vT_flow_leaked vT_flow_ranOff vT_flow_uneven cT_flow_width cT_present_above cT_present_edge cT_flow_goesOn cT_flow_comes cT_present_kind cT_flow_keeps cT_flow_holds cT_told = some u ∧ (u.1 = nI f.kpS)
  := by
  have hn : f.n ≤ 10 := hV.1
  obtain rfl := hC.1
  obtain rfl := hC.2.1
  obtain rfl := hC.2.2.1
  have hG : VG f := VG_of hV
  have hh : f.hr ≤ 9999 := hV.2.2.2.1
  obtain ⟨rw', rg', rc', rk', rh', hR, hRv⟩ := reckon_e hG (CG_of hC) vT_flow_kept vT_flow_leaked vT_flow_ranOff vT_flow_uneven cT_flow_width cT_flow_goesOn cT_flow_comes cT_flow_keeps cT_flow_holds
  unfold f_X7_now
  rw [br_f1 (by decide), br_f1 (by decide), br_f1 (by decide), br_f1 (by decide), br_f1 (by decide), br_f1 (by decide), br_t1 rfl, bd_t hR]
  exact ⟨_, rfl, rfl⟩
theorem S_nowB {f : Fo} {vT_present_basins : Int32} {vT_present_spring : Int32} {vT_present_hour : Int32} {cT_present_store : Nat → Int32} {cT_present_pool : Nat → Int32} {vT_flow_kept : Int32} {vT_flow_leaked : Int32} {vT_flow_ranOff : Int32} {vT_flow_uneven : Int32} {cT_flow_width : Nat → Int32} {cT_present_above : Nat → Int32} {cT_present_edge : Nat → Int32} {cT_flow_goesOn : Nat → Int32} {cT_flow_comes : Nat → Int32} {cT_present_kind : Nat → Int32} {cT_flow_keeps : Nat → Int32} {cT_flow_holds : Nat → Int32} {cT_told : Nat → Int32} {cT_present_spot : Nat → Int32} {vT_present_z : Int32} (hV : VF f) (hC : CF f cT_present_kind cT_present_above cT_present_edge cT_present_pool cT_present_store cT_present_spot vT_present_basins vT_present_spring vT_present_hour vT_present_z) : ∃ u : Int32 × Int32 × Int32 × Int32 × Int32 × (Nat → Int32) × (Nat → Int32) × (Nat → Int32) × (Nat → Int32) × (Nat → Int32) × (Nat → Int32), f_X7_now (-1) vT_present_basins vT_present_spring vT_present_hour cT_present_store cT_present_pool vT_flow_kept vT_flow_leaked vT_flow_ranOff vT_flow_uneven cT_flow_width cT_present_above cT_present_edge cT_flow_goesOn cT_flow_comes cT_present_kind cT_flow_keeps cT_flow_holds cT_told = some u ∧ (u.1 = -1000001)
  := by
  have hn : f.n ≤ 10 := hV.1
  obtain rfl := hC.1
  obtain rfl := hC.2.1
  obtain rfl := hC.2.2.1
  have hG : VG f := VG_of hV
  have hh : f.hr ≤ 9999 := hV.2.2.2.1
  unfold f_X7_now
  rw [br_f1 (by decide), br_f1 (by decide), br_f1 (by decide), br_f1 (by decide), br_f1 (by decide), br_f1 (by decide), br_f1 (by decide), bd_t (tell0 _)]
  exact ⟨_, rfl, rfl⟩
theorem S_hours {f : Fo} {vT_present_basins : Int32} {vT_present_spring : Int32} {vT_present_hour : Int32} {vT_flow_kept : Int32} {vT_flow_leaked : Int32} {vT_flow_ranOff : Int32} {vT_flow_uneven : Int32} {vT_flow_keptInAll : Int32} {vT_flow_leakedInAll : Int32} {vT_flow_ranOffInAll : Int32} {cT_flow_width : Nat → Int32} {cT_present_above : Nat → Int32} {cT_present_edge : Nat → Int32} {cT_flow_goesOn : Nat → Int32} {cT_flow_comes : Nat → Int32} {cT_present_kind : Nat → Int32} {cT_flow_keeps : Nat → Int32} {cT_present_pool : Nat → Int32} {cT_flow_holds : Nat → Int32} {cT_present_store : Nat → Int32} {cT_told : Nat → Int32} {cT_present_spot : Nat → Int32} {vT_present_z : Int32} {k : Nat} (hV : VF f) (hC : CF f cT_present_kind cT_present_above cT_present_edge cT_present_pool cT_present_store cT_present_spot vT_present_basins vT_present_spring vT_present_hour vT_present_z) (hk1 : 1 ≤ k) (hk : k ≤ 100) (hl : f.hr + k ≤ 9999) : ∃ u : Int32 × Int32 × Int32 × Int32 × Int32 × Int32 × Int32 × Int32 × Int32 × (Nat → Int32) × (Nat → Int32) × (Nat → Int32) × (Nat → Int32) × (Nat → Int32) × (Nat → Int32) × (Nat → Int32) × (Nat → Int32), f_X7_hours (nI k) vT_present_basins vT_present_spring vT_present_hour vT_flow_kept vT_flow_leaked vT_flow_ranOff vT_flow_uneven vT_flow_keptInAll vT_flow_leakedInAll vT_flow_ranOffInAll cT_flow_width cT_present_above cT_present_edge cT_flow_goesOn cT_flow_comes cT_present_kind cT_flow_keeps cT_present_pool cT_flow_holds cT_present_store cT_told = some u ∧ (u.1 = nI (f.kpT k) ∧ CF (f.it k) cT_present_kind cT_present_above cT_present_edge u.2.2.2.2.2.2.2.2.2.2.2.2.2.1 u.2.2.2.2.2.2.2.2.2.2.2.2.2.2.2.1 cT_present_spot vT_present_basins vT_present_spring u.2.1 vT_present_z)
  := by
  have hn : f.n ≤ 10 := hV.1
  obtain rfl := hC.1
  obtain rfl := hC.2.1
  obtain rfl := hC.2.2.1
  have hG : VG f := VG_of hV
  have hh : f.hr ≤ 9999 := hV.2.2.2.1
  have h1 : f_X7_within (nI k) (1 : Int32) (100 : Int32) = some (kI (rg 1 100 (nI k))) := within_n (by decide) (by decide) _
  unfold f_X7_hours
  obtain ⟨vk', vl', vr', vu', w', g', c', k', p', h', s', hp, hpv⟩ := pass_e hG hC (k := k) (by omega) vT_flow_kept vT_flow_leaked vT_flow_ranOff vT_flow_uneven vT_flow_keptInAll vT_flow_leakedInAll vT_flow_ranOffInAll cT_flow_width cT_flow_goesOn cT_flow_comes cT_flow_keeps cT_flow_holds
  rw [bd_t h1, br_kI, br_t1 (rg_of hk1 hk), bd_t (late7 hh (by omega)), kI_f (by omega), br_t1 rfl, bd_t hp]
  refine ⟨_, rfl, rfl, ?_⟩
  obtain ⟨s1, s2, s3, s4, s5, s6, s7, s8⟩ := it_same f k
  obtain ⟨q0, q1, q2, q3, q4, q5⟩ := hC
  refine ⟨congrArg nI s1.symm, congrArg nI s6.symm, congrArg nI s7.symm, q3.trans s8.symm, fun b hb => ?_, fun j hj => by rw [s5]; exact q5 j hj⟩
  rw [s1] at hb
  obtain ⟨r1, r2, r3, r4, r5⟩ := q4 b hb
  rw [s2, s3, s4]
  exact ⟨r1, r2, r3, (hpv b hb).1, (hpv b hb).2.1⟩
theorem S_ahead0 {f : Fo} {vT_present_basins : Int32} {vT_present_spring : Int32} {vT_present_hour : Int32} {vT_present_z : Int32} {cT_told : Nat → Int32} {vT_trial_basins : Int32} {vT_trial_spring : Int32} {vT_trial_hour : Int32} {vT_trial_z : Int32} {cT_present_kind : Nat → Int32} {cT_trial_kind : Nat → Int32} {cT_present_above : Nat → Int32} {cT_trial_above : Nat → Int32} {cT_present_edge : Nat → Int32} {cT_trial_edge : Nat → Int32} {cT_present_pool : Nat → Int32} {cT_trial_pool : Nat → Int32} {cT_present_store : Nat → Int32} {cT_trial_store : Nat → Int32} {cT_present_spot : Nat → Int32} {cT_trial_spot : Nat → Int32} {vT_flow_kept : Int32} {vT_flow_leaked : Int32} {vT_flow_ranOff : Int32} {vT_flow_uneven : Int32} {vT_flow_keptInAll : Int32} {vT_flow_leakedInAll : Int32} {vT_flow_ranOffInAll : Int32} {cT_flow_width : Nat → Int32} {cT_flow_goesOn : Nat → Int32} {cT_flow_comes : Nat → Int32} {cT_flow_keeps : Nat → Int32} {cT_flow_holds : Nat → Int32} {k : Nat} (hV : VF f) (hC : CF f cT_present_kind cT_present_above cT_present_edge cT_present_pool cT_present_store cT_present_spot vT_present_basins vT_present_spring vT_present_hour vT_present_z) (hk : k ≤ 100) (hl : f.hr + k ≤ 9999) : ∃ u : Int32 × (Nat → Int32) × Int32 × Int32 × Int32 × Int32 × (Nat → Int32) × (Nat → Int32) × (Nat → Int32) × (Nat → Int32) × (Nat → Int32) × (Nat → Int32) × Int32 × Int32 × Int32 × Int32 × Int32 × Int32 × Int32 × (Nat → Int32) × (Nat → Int32) × (Nat → Int32) × (Nat → Int32) × (Nat → Int32), f_X7_ahead (nI k) 0 vT_present_basins vT_present_spring vT_present_hour vT_present_z cT_told vT_trial_basins vT_trial_spring vT_trial_hour vT_trial_z cT_present_kind cT_trial_kind cT_present_above cT_trial_above cT_present_edge cT_trial_edge cT_present_pool cT_trial_pool cT_present_store cT_trial_store cT_present_spot cT_trial_spot vT_flow_kept vT_flow_leaked vT_flow_ranOff vT_flow_uneven vT_flow_keptInAll vT_flow_leakedInAll vT_flow_ranOffInAll cT_flow_width cT_flow_goesOn cT_flow_comes cT_flow_keeps cT_flow_holds = some u ∧ (u.1 = nI (f.kpT k))
  := by
  have hn : f.n ≤ 10 := hV.1
  obtain rfl := hC.1
  obtain rfl := hC.2.1
  obtain rfl := hC.2.2.1
  have hG : VG f := VG_of hV
  have hh : f.hr ≤ 9999 := hV.2.2.2.1
  have h1 : f_X7_within (0 : Int32) (0 : Int32) (2 : Int32) = some (kI (rg 0 2 (0 : Int32))) := within_n (by decide) (by decide) _
  have h0 : f_X7_within (nI k) (0 : Int32) (100 : Int32) = some (kI (rg 0 100 (nI k))) := within_n (by decide) (by decide) _
  have hK : rg 0 (2 + f.n) (0 : Int32) := ⟨0, by omega, by omega, rfl⟩
  unfold f_X7_ahead
  obtain ⟨tk', ta', te', tp', ts', tt', hSt, hCt⟩ := start_e hn hC vT_trial_basins vT_trial_spring vT_trial_hour vT_trial_z cT_trial_kind cT_trial_above cT_trial_edge cT_trial_pool cT_trial_store cT_trial_spot
  obtain ⟨vk', vl', vr', vu', w', g', c', k', p', h', s', hp, hpv⟩ := pass_e2 hG hCt (k := k) (by omega) vT_flow_kept vT_flow_leaked vT_flow_ranOff vT_flow_uneven vT_flow_keptInAll vT_flow_leakedInAll vT_flow_ranOffInAll cT_flow_width cT_flow_goesOn cT_flow_comes cT_flow_keeps cT_flow_holds
  rw [bd_t h1, br_kI, known_t hn hK]
  unfold f_X7_ahead_J29
  rw [br_f1 (show ¬ (1 : Int32) = 0 by decide), bd_t h0, br_kI, br_t1 (rg_of (by omega) hk), bd_t (late7 hh (by omega)), kI_f (by omega), br_t1 rfl, bd_t hSt]
  dsimp only
  rw [bd_t hp, br_t1 rfl]
  exact ⟨_, rfl, rfl⟩
theorem S_ahead {f : Fo} {vT_present_basins : Int32} {vT_present_spring : Int32} {vT_present_hour : Int32} {vT_present_z : Int32} {cT_told : Nat → Int32} {vT_trial_basins : Int32} {vT_trial_spring : Int32} {vT_trial_hour : Int32} {vT_trial_z : Int32} {cT_present_kind : Nat → Int32} {cT_trial_kind : Nat → Int32} {cT_present_above : Nat → Int32} {cT_trial_above : Nat → Int32} {cT_present_edge : Nat → Int32} {cT_trial_edge : Nat → Int32} {cT_present_pool : Nat → Int32} {cT_trial_pool : Nat → Int32} {cT_present_store : Nat → Int32} {cT_trial_store : Nat → Int32} {cT_present_spot : Nat → Int32} {cT_trial_spot : Nat → Int32} {vT_flow_kept : Int32} {vT_flow_leaked : Int32} {vT_flow_ranOff : Int32} {vT_flow_uneven : Int32} {vT_flow_keptInAll : Int32} {vT_flow_leakedInAll : Int32} {vT_flow_ranOffInAll : Int32} {cT_flow_width : Nat → Int32} {cT_flow_goesOn : Nat → Int32} {cT_flow_comes : Nat → Int32} {cT_flow_keeps : Nat → Int32} {cT_flow_holds : Nat → Int32} {k b : Nat} (hV : VF f) (hC : CF f cT_present_kind cT_present_above cT_present_edge cT_present_pool cT_present_store cT_present_spot vT_present_basins vT_present_spring vT_present_hour vT_present_z) (hk : k ≤ 100) (hl : f.hr + k ≤ 9999) (hb : b < f.n) : ∃ u : Int32 × (Nat → Int32) × Int32 × Int32 × Int32 × Int32 × (Nat → Int32) × (Nat → Int32) × (Nat → Int32) × (Nat → Int32) × (Nat → Int32) × (Nat → Int32) × Int32 × Int32 × Int32 × Int32 × Int32 × Int32 × Int32 × (Nat → Int32) × (Nat → Int32) × (Nat → Int32) × (Nat → Int32) × (Nat → Int32), f_X7_ahead (nI k) (nI (3 + b)) vT_present_basins vT_present_spring vT_present_hour vT_present_z cT_told vT_trial_basins vT_trial_spring vT_trial_hour vT_trial_z cT_present_kind cT_trial_kind cT_present_above cT_trial_above cT_present_edge cT_trial_edge cT_present_pool cT_trial_pool cT_present_store cT_trial_store cT_present_spot cT_trial_spot vT_flow_kept vT_flow_leaked vT_flow_ranOff vT_flow_uneven vT_flow_keptInAll vT_flow_leakedInAll vT_flow_ranOffInAll cT_flow_width cT_flow_goesOn cT_flow_comes cT_flow_keeps cT_flow_holds = some u ∧ (u.1 = nI (f.gt k b))
  := by
  have hn : f.n ≤ 10 := hV.1
  obtain rfl := hC.1
  obtain rfl := hC.2.1
  obtain rfl := hC.2.2.1
  have hG : VG f := VG_of hV
  have hh : f.hr ≤ 9999 := hV.2.2.2.1
  have h1 : f_X7_within (nI (3 + b)) (0 : Int32) (2 : Int32) = some (kI (rg 0 2 (nI (3 + b)))) := within_n (by decide) (by decide) _
  have h0 : f_X7_within (nI k) (0 : Int32) (100 : Int32) = some (kI (rg 0 100 (nI k))) := within_n (by decide) (by decide) _
  have hK : rg 0 (2 + f.n) (nI (3 + b)) := ⟨3 + b, by omega, by omega, rfl⟩
  unfold f_X7_ahead
  obtain ⟨tk', ta', te', tp', ts', tt', hSt, hCt⟩ := start_e hn hC vT_trial_basins vT_trial_spring vT_trial_hour vT_trial_z cT_trial_kind cT_trial_above cT_trial_edge cT_trial_pool cT_trial_store cT_trial_spot
  obtain ⟨vk', vl', vr', vu', w', g', c', k', p', h', s', hp, hpv⟩ := pass_e2 hG hCt (k := k) (by omega) vT_flow_kept vT_flow_leaked vT_flow_ranOff vT_flow_uneven vT_flow_keptInAll vT_flow_leakedInAll vT_flow_ranOffInAll cT_flow_width cT_flow_goesOn cT_flow_comes cT_flow_keeps cT_flow_holds
  rw [bd_t h1, br_kI, known_t hn hK]
  unfold f_X7_ahead_J29
  rw [br_f1 (show ¬ (1 : Int32) = 0 by decide), bd_t h0, br_kI, br_t1 (rg_of (by omega) hk), bd_t (late7 hh (by omega)), kI_f (by omega), br_t1 rfl, bd_t hSt]
  dsimp only
  have e : nI (3 + b) - (3 : Int32) = nI b := (pk_sub (a := 3 + b) (b := 3) (by omega)).trans (by rw [Nat.add_sub_cancel_left])
  rw [bd_t hp, br_f1 (nI_ne 0 0 (by omega)), br_f1 (nI_ne 1 1 (by omega)), br_f1 (nI_ne 2 2 (by omega)), e, bd_t (gain_e (f := f) (k := k) hn hb (hpv _ hb).2.1 (hC.2.2.2.2.1 _ hb).2.2.2.2)]
  exact ⟨_, rfl, rfl⟩
theorem S_image {f : Fo} {vT_pictured : Int32} {vT_picture_basins : Int32} {vT_picture_spring : Int32} {vT_picture_hour : Int32} {vT_picture_z : Int32} {vT_present_basins : Int32} {vT_present_spring : Int32} {vT_present_hour : Int32} {vT_present_z : Int32} {cT_present_kind : Nat → Int32} {cT_picture_kind : Nat → Int32} {cT_present_above : Nat → Int32} {cT_picture_above : Nat → Int32} {cT_present_edge : Nat → Int32} {cT_picture_edge : Nat → Int32} {cT_present_pool : Nat → Int32} {cT_picture_pool : Nat → Int32} {cT_present_store : Nat → Int32} {cT_picture_store : Nat → Int32} {cT_present_spot : Nat → Int32} {cT_picture_spot : Nat → Int32} (hV : VF f) (hC : CF f cT_present_kind cT_present_above cT_present_edge cT_present_pool cT_present_store cT_present_spot vT_present_basins vT_present_spring vT_present_hour vT_present_z) : ∃ u : Int32 × Int32 × Int32 × Int32 × Int32 × Int32 × (Nat → Int32) × (Nat → Int32) × (Nat → Int32) × (Nat → Int32) × (Nat → Int32) × (Nat → Int32), f_X7_image  vT_pictured vT_picture_basins vT_picture_spring vT_picture_hour vT_picture_z vT_present_basins vT_present_spring vT_present_hour vT_present_z cT_present_kind cT_picture_kind cT_present_above cT_picture_above cT_present_edge cT_picture_edge cT_present_pool cT_picture_pool cT_present_store cT_picture_store cT_present_spot cT_picture_spot = some u ∧ (u.1 = 1 ∧ u.2.1 = 1 ∧ CF f u.2.2.2.2.2.2.1 u.2.2.2.2.2.2.2.1 u.2.2.2.2.2.2.2.2.1 u.2.2.2.2.2.2.2.2.2.1 u.2.2.2.2.2.2.2.2.2.2.1 u.2.2.2.2.2.2.2.2.2.2.2 u.2.2.1 u.2.2.2.1 u.2.2.2.2.1 u.2.2.2.2.2.1)
  := by
  unfold f_X7_image
  rw [bd_t (show f_X2_become vT_present_basins vT_present_spring vT_present_hour vT_present_z vT_picture_basins vT_picture_spring vT_picture_hour vT_picture_z cT_present_kind cT_picture_kind cT_present_above cT_picture_above cT_present_edge cT_picture_edge cT_present_pool cT_picture_pool cT_present_store cT_picture_store cT_present_spot cT_picture_spot = some _ from rfl)]
  exact ⟨_, rfl, rfl, rfl, CF_cpy hV.1 _ _ _ _ _ _ hC⟩
theorem S_undo {f : Fo} {vT_pictured : Int32} {vT_present_basins : Int32} {vT_present_spring : Int32} {vT_present_hour : Int32} {vT_present_z : Int32} {vT_picture_basins : Int32} {vT_picture_spring : Int32} {vT_picture_hour : Int32} {vT_picture_z : Int32} {cT_picture_kind : Nat → Int32} {cT_present_kind : Nat → Int32} {cT_picture_above : Nat → Int32} {cT_present_above : Nat → Int32} {cT_picture_edge : Nat → Int32} {cT_present_edge : Nat → Int32} {cT_picture_pool : Nat → Int32} {cT_present_pool : Nat → Int32} {cT_picture_store : Nat → Int32} {cT_present_store : Nat → Int32} {cT_picture_spot : Nat → Int32} {cT_present_spot : Nat → Int32} {cT_told : Nat → Int32} (hp1 : vT_pictured = 1) (hV : VF f) (hC : CF f cT_picture_kind cT_picture_above cT_picture_edge cT_picture_pool cT_picture_store cT_picture_spot vT_picture_basins vT_picture_spring vT_picture_hour vT_picture_z) : ∃ u : Int32 × Int32 × Int32 × Int32 × Int32 × (Nat → Int32) × (Nat → Int32) × (Nat → Int32) × (Nat → Int32) × (Nat → Int32) × (Nat → Int32) × (Nat → Int32), f_X7_undo  vT_pictured vT_present_basins vT_present_spring vT_present_hour vT_present_z vT_picture_basins vT_picture_spring vT_picture_hour vT_picture_z cT_picture_kind cT_present_kind cT_picture_above cT_present_above cT_picture_edge cT_present_edge cT_picture_pool cT_present_pool cT_picture_store cT_present_store cT_picture_spot cT_present_spot cT_told = some u ∧ (u.1 = nI f.hr ∧ CF (f) u.2.2.2.2.2.1 u.2.2.2.2.2.2.1 u.2.2.2.2.2.2.2.1 u.2.2.2.2.2.2.2.2.1 u.2.2.2.2.2.2.2.2.2.1 u.2.2.2.2.2.2.2.2.2.2.1 u.2.1 u.2.2.1 u.2.2.2.1 u.2.2.2.2.1)
  := by
  unfold f_X7_undo
  rw [br_f1 (by rw [hp1]; decide), bd_t (show f_X2_become vT_picture_basins vT_picture_spring vT_picture_hour vT_picture_z vT_present_basins vT_present_spring vT_present_hour vT_present_z cT_picture_kind cT_present_kind cT_picture_above cT_present_above cT_picture_edge cT_present_edge cT_picture_pool cT_present_pool cT_picture_store cT_present_store cT_picture_spot cT_present_spot = some _ from rfl)]
  exact ⟨_, rfl, hC.2.2.1, CF_cpy hV.1 _ _ _ _ _ _ hC⟩
