/-! ===== X7_isBasin ===== -/
def w_X7_isBasin (cyI cyJ cyZ cyB cyO : ClassId) (aT aT_present aT_picture aT_trial aT_flow aT_shares aT_search aT_tape aT_sheets aT_usual aT_told aT_present_kind aT_present_above aT_present_edge aT_present_pool aT_present_store aT_present_spot : Nat) (vT_pictured : Int32) (vT_present_basins : Int32) (vT_present_spring : Int32) (vT_present_hour : Int32) (vT_present_z : Int32) : va_W := [(aT, .inr (6, [.ref aT_present, .ref aT_picture, .ref aT_trial, .ref aT_flow, .ref aT_shares, .ref aT_search, .ref aT_tape, .ref aT_sheets, .ref aT_usual, .ref aT_told, .int vT_pictured])), (aT_present, .inr (2, [.ref aT_present_kind, .ref aT_present_above, .ref aT_present_edge, .ref aT_present_pool, .ref aT_present_store, .ref aT_present_spot, .int vT_present_basins, .int vT_present_spring, .int vT_present_hour, .int vT_present_z]))]
set_option maxHeartbeats 4000000 in
set_option maxRecDepth 100000 in
theorem t_X7_isBasin (l : Launch) (D : va_G) (cyI cyJ cyZ cyB cyO : ClassId) (aT aT_present aT_picture aT_trial aT_flow aT_shares aT_search aT_tape aT_sheets aT_usual aT_told aT_present_kind aT_present_above aT_present_edge aT_present_pool aT_present_store aT_present_spot : Nat) (vT_pictured : Int32) (vT_present_basins : Int32) (vT_present_spring : Int32) (vT_present_hour : Int32) (vT_present_z : Int32) (x1 : Int32) (out : Int32) (h : f_X7_isBasin x1 vT_present_basins = some out) : Mi l yX7_isBasin wsX7_isBasin ({ frames := 0, cells := 0, slots := 0, locals := 0 } : Room) D (tyA cyI cyJ cyZ cyB cyO) [.ref aT, .int x1] (w_X7_isBasin cyI cyJ cyZ cyB cyO aT aT_present aT_picture aT_trial aT_flow aT_shares aT_search aT_tape aT_sheets aT_usual aT_told aT_present_kind aT_present_above aT_present_edge aT_present_pool aT_present_store aT_present_spot vT_pictured vT_present_basins vT_present_spring vT_present_hour vT_present_z) (w_X7_isBasin cyI cyJ cyZ cyB cyO aT aT_present aT_picture aT_trial aT_flow aT_shares aT_search aT_tape aT_sheets aT_usual aT_told aT_present_kind aT_present_above aT_present_edge aT_present_pool aT_present_store aT_present_spot vT_pictured vT_present_basins vT_present_spring vT_present_hour vT_present_z) out := by
  refine Mi.mk (cc := cX7_isBasin) (maxL := 2) (rt := .boolean) (own := RX7) (by decide) rfl rfl (Nat.le_of_ble_eq_true rfl) ?_
  intro p e s m args below meth c A Q F hK hP hD hA hret ls hl
  obtain ⟨hx, hb, hml, hown, hts⟩ := id F
  have hS : va_S A s.heap s.heap [] := va_S.rf
  have hl : lv_has ls 2 [(0, .ref aT), (1, .int x1)] := hl
  have in_X7 : ∀ w ∈ wsX70, w ∈ wsX7_isBasin := by decide +kernel
  have in_X2 : ∀ w ∈ wsX20, w ∈ wsX7_isBasin := by decide +kernel
  have q1 := hts (Cond.fieldLink RX7 12 "ThirdFountain" "present" "LThirdFountain$Fountain;") (List.mem_of_getElem? (i := 1) rfl)
  have q2 := hts (Cond.fieldLink RX7 68 "ThirdFountain$Fountain" "basins" "I") (List.mem_of_getElem? (i := 2) rfl)
  unfold f_X7_isBasin at h
  refine lv_iload_n hx hb dX7_isBasin_0 rfl (lv_at hl 1 rfl) ?_
  refine lv_if_lt (tgt := 19) hx hb dX7_isBasin_1 (by decide) (fun c1 => ?_) (fun c1 => ?_)
  · have h := br_pos c1 h
    refine lv_iconst (v := 0) hx hb dX7_isBasin_19 (by decide) ?_
    obtain rfl := Option.some.inj h
    exact hret _ _ _ _ _ hP hD hS dX7_isBasin_20 (nz_of (Or.inl rfl)) rfl
  · have h := br_neg c1 h
    refine lv_iload_n hx hb dX7_isBasin_4 rfl (lv_at hl 1 rfl) ?_
    refine lv_aload_n hx hb dX7_isBasin_5 rfl (lv_at hl 0 rfl) ?_
    refine va_get (D := D) (ci := 6) (v := .ref aT_present) (C := RX7) (T := TX7) (N := 11) hx hb hts in_X7 hown hK hP 0 rfl rfl 0 (by decide) q1 (fun _ h9 => h9) rfl dX7_isBasin_6 ?_
    refine va_get (D := D) (ci := 2) (v := .int vT_present_basins) (C := RX2) (T := TX2) (N := 10) hx hb hts in_X2 hown hK hP 1 rfl rfl 6 (by decide) q2 (fun _ h9 => h9) rfl dX7_isBasin_9 ?_
    refine lv_icmp_ge (tgt := 19) hx hb dX7_isBasin_12 (by decide) (fun c2 => ?_) (fun c2 => ?_)
    · have h := br_pos c2 h
      refine lv_iconst (v := 0) hx hb dX7_isBasin_19 (by decide) ?_
      obtain rfl := Option.some.inj h
      exact hret _ _ _ _ _ hP hD hS dX7_isBasin_20 (nz_of (Or.inl rfl)) rfl
    · have h := br_neg c2 h
      refine lv_iconst (v := 1) hx hb dX7_isBasin_15 (by decide) ?_
      refine lv_goto (tgt := 20) hx hb dX7_isBasin_16 (by decide) ?_
      obtain rfl := Option.some.inj h
      exact hret _ _ _ _ _ hP hD hS dX7_isBasin_20 (nz_of (Or.inr rfl)) rfl
/-! ===== X7_tell ===== -/
def w_X7_tell (cyI cyJ cyZ cyB cyO : ClassId) (aT aT_told aT_present aT_picture aT_trial aT_flow aT_shares aT_search aT_tape aT_sheets aT_usual : Nat) (vT_pictured : Int32) (cT_told : Nat → Int32) : va_W := [(aT, .inr (6, [.ref aT_present, .ref aT_picture, .ref aT_trial, .ref aT_flow, .ref aT_shares, .ref aT_search, .ref aT_tape, .ref aT_sheets, .ref aT_usual, .ref aT_told, .int vT_pictured])), (aT_told, .inl (cyI, 7, .inl cT_told))]
set_option maxHeartbeats 4000000 in
set_option maxRecDepth 100000 in
theorem t_X7_tell (l : Launch) (D : va_G) (cyI cyJ cyZ cyB cyO : ClassId) (aT aT_told aT_present aT_picture aT_trial aT_flow aT_shares aT_search aT_tape aT_sheets aT_usual : Nat) (vT_pictured : Int32) (cT_told : Nat → Int32) (x1 : Int32) (out : Int32 × (Nat → Int32)) (h : f_X7_tell x1 cT_told = some out) : Mi l yX7_tell wsX7_tell ({ frames := 0, cells := 0, slots := 0, locals := 0 } : Room) D (tyA cyI cyJ cyZ cyB cyO) [.ref aT, .int x1] (w_X7_tell cyI cyJ cyZ cyB cyO aT aT_told aT_present aT_picture aT_trial aT_flow aT_shares aT_search aT_tape aT_sheets aT_usual vT_pictured cT_told) (w_X7_tell cyI cyJ cyZ cyB cyO aT aT_told aT_present aT_picture aT_trial aT_flow aT_shares aT_search aT_tape aT_sheets aT_usual vT_pictured out.2) out.1 := by
  refine Mi.mk (cc := cX7_tell) (maxL := 3) (rt := .int) (own := RX7) (by decide) rfl rfl (Nat.le_of_ble_eq_true rfl) ?_
  intro p e s m args below meth c A Q F hK hP hD hA hret ls hl
  obtain ⟨hx, hb, hml, hown, hts⟩ := id F
  have hS : va_S A s.heap s.heap [] := va_S.rf
  have hl : lv_has ls 3 [(0, .ref aT), (1, .int x1)] := hl
  have in_X7 : ∀ w ∈ wsX70, w ∈ wsX7_tell := by decide +kernel
  have q1 := hts (Cond.constant RX7 81 (-1000001)) (List.mem_of_getElem? (i := 1) rfl)
  have q2 := hts (Cond.fieldLink RX7 61 "ThirdFountain" "told" "[I") (List.mem_of_getElem? (i := 2) rfl)
  unfold f_X7_tell at h
  refine lv_ldc (v := -1000001) hx hb hown q1 dX7_tell_0 ?_
  refine lv_iload_n hx hb dX7_tell_2 rfl (lv_at hl 1 rfl) ?_
  refine lv_isub hx hb dX7_tell_3 ?_
  refine lv_topi (fun z1 ez1 => ?_)
  have h := nm_at ez1 h
  refine lv_istore_n (lv' := [(2, .int z1), (0, .ref aT), (1, .int x1)]) hx hb dX7_tell_4 rfl hl (by decide) rfl (fun ls hl => ?_)
  refine lv_iload_n hx hb dX7_tell_5 rfl (lv_at hl 0 rfl) ?_
  refine lv_if_lt (tgt := 25) hx hb dX7_tell_6 (by decide) (fun c2 => ?_) (fun c2 => ?_)
  · have h := br_pos c2 h
    refine lv_iload_n hx hb dX7_tell_25 rfl (lv_at hl 2 rfl) ?_
    obtain rfl := Option.some.inj h
    exact hret _ _ _ _ _ hP hD hS dX7_tell_26 rfl rfl
  · have h := br_neg c2 h
    refine lv_iload_n hx hb dX7_tell_9 rfl (lv_at hl 0 rfl) ?_
    refine lv_bipush (v := 7) hx hb dX7_tell_10 (by decide) ?_
    refine lv_icmp_ge (tgt := 25) hx hb dX7_tell_12 (by decide) (fun c3 => ?_) (fun c3 => ?_)
    · have h := br_pos c3 h
      refine lv_iload_n hx hb dX7_tell_25 rfl (lv_at hl 2 rfl) ?_
      obtain rfl := Option.some.inj h
      exact hret _ _ _ _ _ hP hD hS dX7_tell_26 rfl rfl
    · have h := br_neg c3 h
      refine lv_aload_n hx hb dX7_tell_15 rfl (lv_at hl 1 rfl) ?_
      refine va_get (D := D) (ci := 6) (v := .ref aT_told) (C := RX7) (T := TX7) (N := 11) hx hb hts in_X7 hown hK hP 0 rfl rfl 9 (by decide) q2 (fun _ h9 => h9) rfl dX7_tell_16 ?_
      refine lv_iload_n hx hb dX7_tell_19 rfl (lv_at hl 0 rfl) ?_
      refine lv_dup2_11 hx hb dX7_tell_20 rfl rfl ?_
      obtain ⟨g4, h⟩ := gd_some h
      refine va_iald hx hb hK hP 1 0 rfl rfl g4 dX7_tell_21 ?_
      refine lv_iconst (v := 1) hx hb dX7_tell_22 (by decide) ?_
      refine lv_iadd hx hb dX7_tell_23 ?_
      obtain ⟨g5, h⟩ := gd_some h
      refine va_iast hx hb hK hP hD hS 1 0 rfl rfl g5 dX7_tell_24 (fun H locs hP hD hS => ?_)
      have hP : va_P D vwCl (w_X7_tell cyI cyJ cyZ cyB cyO aT aT_told aT_present aT_picture aT_trial aT_flow aT_shares aT_search aT_tape aT_sheets aT_usual vT_pictured (upd cT_told z1.toNatClampNeg ((cT_told z1.toNatClampNeg) + (1 : Int32)))) H := hP
      have hD : va_D A (w_X7_tell cyI cyJ cyZ cyB cyO aT aT_told aT_present aT_picture aT_trial aT_flow aT_shares aT_search aT_tape aT_sheets aT_usual vT_pictured (upd cT_told z1.toNatClampNeg ((cT_told z1.toNatClampNeg) + (1 : Int32)))) := hD
      refine lv_iload_n hx hb dX7_tell_25 rfl (lv_at hl 2 rfl) ?_
      obtain rfl := Option.some.inj h
      exact hret _ _ _ _ _ hP hD hS dX7_tell_26 rfl rfl
/-! ===== X7_basin ===== -/
def w_X7_basin (cyI cyJ cyZ cyB cyO : ClassId) (aT aT_present aT_told aT_present_kind aT_present_above aT_present_edge aT_present_pool aT_present_store aT_picture aT_trial aT_flow aT_shares aT_search aT_tape aT_sheets aT_usual aT_present_spot : Nat) (vT_pictured : Int32) (vT_present_basins : Int32) (vT_present_spring : Int32) (vT_present_hour : Int32) (vT_present_z : Int32) (cT_told : Nat → Int32) (cT_present_kind : Nat → Int32) (cT_present_above : Nat → Int32) (cT_present_edge : Nat → Int32) (cT_present_pool : Nat → Int32) (cT_present_store : Nat → Int32) : va_W := [(aT, .inr (6, [.ref aT_present, .ref aT_picture, .ref aT_trial, .ref aT_flow, .ref aT_shares, .ref aT_search, .ref aT_tape, .ref aT_sheets, .ref aT_usual, .ref aT_told, .int vT_pictured])), (aT_present, .inr (2, [.ref aT_present_kind, .ref aT_present_above, .ref aT_present_edge, .ref aT_present_pool, .ref aT_present_store, .ref aT_present_spot, .int vT_present_basins, .int vT_present_spring, .int vT_present_hour, .int vT_present_z])), (aT_told, .inl (cyI, 7, .inl cT_told)), (aT_present_kind, .inl (cyI, 10, .inl cT_present_kind)), (aT_present_above, .inl (cyI, 10, .inl cT_present_above)), (aT_present_edge, .inl (cyI, 10, .inl cT_present_edge)), (aT_present_pool, .inl (cyI, 10, .inl cT_present_pool)), (aT_present_store, .inl (cyI, 10, .inl cT_present_store))]
set_option maxHeartbeats 4000000 in
set_option maxRecDepth 100000 in
theorem t_X7_basin (l : Launch) (D : va_G) (cyI cyJ cyZ cyB cyO : ClassId) (aT aT_present aT_told aT_present_kind aT_present_above aT_present_edge aT_present_pool aT_present_store aT_picture aT_trial aT_flow aT_shares aT_search aT_tape aT_sheets aT_usual aT_present_spot : Nat) (vT_pictured : Int32) (vT_present_basins : Int32) (vT_present_spring : Int32) (vT_present_hour : Int32) (vT_present_z : Int32) (cT_told : Nat → Int32) (cT_present_kind : Nat → Int32) (cT_present_above : Nat → Int32) (cT_present_edge : Nat → Int32) (cT_present_pool : Nat → Int32) (cT_present_store : Nat → Int32) (x1 : Int32) (x2 : Int32) (out : Int32 × Int32 × (Nat → Int32) × (Nat → Int32) × (Nat → Int32) × (Nat → Int32) × (Nat → Int32) × (Nat → Int32)) (h : f_X7_basin x1 x2 vT_present_basins cT_told cT_present_kind cT_present_above cT_present_edge cT_present_pool cT_present_store = some out) : Mi l yX7_basin wsX7_basin ({ frames := 1, cells := 0, slots := 0, locals := 24 } : Room) D (tyA cyI cyJ cyZ cyB cyO) [.ref aT, .int x1, .int x2] (w_X7_basin cyI cyJ cyZ cyB cyO aT aT_present aT_told aT_present_kind aT_present_above aT_present_edge aT_present_pool aT_present_store aT_picture aT_trial aT_flow aT_shares aT_search aT_tape aT_sheets aT_usual aT_present_spot vT_pictured vT_present_basins vT_present_spring vT_present_hour vT_present_z cT_told cT_present_kind cT_present_above cT_present_edge cT_present_pool cT_present_store) (w_X7_basin cyI cyJ cyZ cyB cyO aT aT_present aT_told aT_present_kind aT_present_above aT_present_edge aT_present_pool aT_present_store aT_picture aT_trial aT_flow aT_shares aT_search aT_tape aT_sheets aT_usual aT_present_spot vT_pictured out.2.1 vT_present_spring vT_present_hour vT_present_z out.2.2.1 out.2.2.2.1 out.2.2.2.2.1 out.2.2.2.2.2.1 out.2.2.2.2.2.2.1 out.2.2.2.2.2.2.2) out.1 := by
  refine Mi.mk (cc := cX7_basin) (maxL := 4) (rt := .int) (own := RX7) (by decide) rfl rfl (Nat.le_of_ble_eq_true rfl) ?_
  intro p e s m args below meth c A Q F hK hP hD hA hret ls hl
  obtain ⟨hx, hb, hml, hown, hts⟩ := id F
  have hS : va_S A s.heap s.heap [] := va_S.rf
  have hl : lv_has ls 4 [(0, .ref aT), (1, .int x1), (2, .int x2)] := hl
  have in_X7 : ∀ w ∈ wsX70, w ∈ wsX7_basin := by decide +kernel
  have in_X2 : ∀ w ∈ wsX20, w ∈ wsX7_basin := by decide +kernel
  have q1 := hts (Cond.fieldLink RX7 12 "ThirdFountain" "present" "LThirdFountain$Fountain;") (List.mem_of_getElem? (i := 1) rfl)
  have q2 := hts (Cond.fieldLink RX7 68 "ThirdFountain$Fountain" "basins" "I") (List.mem_of_getElem? (i := 2) rfl)
  have q3 := hts (Cond.constant RX7 81 (-1000001)) (List.mem_of_getElem? (i := 3) rfl)
  have q14 := hts (Cond.methodLink RX7 82 yX7_tell) (List.mem_of_getElem? (i := 14) rfl)
  have q10 := hts (Cond.methodLink RX7 76 yX3_isKind) (List.mem_of_getElem? (i := 10) rfl)
  have q19 := hts (Cond.methodLink RX7 87 yX2_add) (List.mem_of_getElem? (i := 19) rfl)
  have q4 := hts (Cond.constant RX7 86 (-1000002)) (List.mem_of_getElem? (i := 4) rfl)
  have q5 := hts (Cond.methodLink RX7 72 yX7_isBasin) (List.mem_of_getElem? (i := 5) rfl)
  unfold f_X7_basin at h
  refine lv_aload_n hx hb dX7_basin_0 rfl (lv_at hl 0 rfl) ?_
  refine va_get (D := D) (ci := 6) (v := .ref aT_present) (C := RX7) (T := TX7) (N := 11) hx hb hts in_X7 hown hK hP 0 rfl rfl 0 (by decide) q1 (fun _ h9 => h9) rfl dX7_basin_1 ?_
  refine va_get (D := D) (ci := 2) (v := .int vT_present_basins) (C := RX2) (T := TX2) (N := 10) hx hb hts in_X2 hown hK hP 1 rfl rfl 6 (by decide) q2 (fun _ h9 => h9) rfl dX7_basin_4 ?_
  have j28 : ∀ (t0 : Int32) (vT_present_basins : Int32) (cT_told : Nat → Int32) (cT_present_kind : Nat → Int32) (cT_present_above : Nat → Int32) (cT_present_edge : Nat → Int32) (cT_present_pool : Nat → Int32) (cT_present_store : Nat → Int32) (H : Heap) (locs : List Loc) (ls : Array Slot), va_P D vwCl (w_X7_basin cyI cyJ cyZ cyB cyO aT aT_present aT_told aT_present_kind aT_present_above aT_present_edge aT_present_pool aT_present_store aT_picture aT_trial aT_flow aT_shares aT_search aT_tape aT_sheets aT_usual aT_present_spot vT_pictured vT_present_basins vT_present_spring vT_present_hour vT_present_z cT_told cT_present_kind cT_present_above cT_present_edge cT_present_pool cT_present_store) H → va_D A (w_X7_basin cyI cyJ cyZ cyB cyO aT aT_present aT_told aT_present_kind aT_present_above aT_present_edge aT_present_pool aT_present_store aT_picture aT_trial aT_flow aT_shares aT_search aT_tape aT_sheets aT_usual aT_present_spot vT_pictured vT_present_basins vT_present_spring vT_present_hour vT_present_z cT_told cT_present_kind cT_present_above cT_present_edge cT_present_pool cT_present_store) → va_S A s.heap H locs → lv_has ls 4 [(0, .ref aT), (1, .int x1), (2, .int x2)] → f_X7_basin_J28 x1 x2 t0 vT_present_basins cT_told cT_present_kind cT_present_above cT_present_edge cT_present_pool cT_present_store = some out → W p l e ({ frames := 1, cells := 0, slots := 0, locals := 24 } : Room) s m args below meth c H locs 0 0 Q (F0 m 28 ls [.int t0]) := by
    intro t0 vT_present_basins cT_told cT_present_kind cT_present_above cT_present_edge cT_present_pool cT_present_store H locs ls hP hD hS hl h
    unfold f_X7_basin_J28 at h
    refine lv_istore_n (lv' := [(3, .int t0), (0, .ref aT), (1, .int x1), (2, .int x2)]) hx hb dX7_basin_28 rfl hl (by decide) rfl (fun ls hl => ?_)
    refine lv_iload_n hx hb dX7_basin_29 rfl (lv_at hl 0 rfl) ?_
    refine lv_if_eq (tgt := 40) hx hb dX7_basin_30 (by decide) (fun c1 => ?_) (fun c1 => ?_)
    · have h := br_pos c1 h
      refine lv_aload_n hx hb dX7_basin_40 rfl (lv_at hl 1 rfl) ?_
      refine lv_ldc (v := -1000001) hx hb hown q3 dX7_basin_41 ?_
      obtain ⟨u2, hu2, h⟩ := bd_some h
      refine cl_Vi (rest := []) F hK hP hD hS hA hl (t_X7_tell l D cyI cyJ cyZ cyB cyO aT aT_told aT_present aT_picture aT_trial aT_flow aT_shares aT_search aT_tape aT_sheets aT_usual vT_pictured cT_told (-1000001 : Int32) u2 hu2) (cwV 1 hts gX7_basin_X7_tell rfl rfl rfl (by decide +kernel) ⟨Nat.le_of_ble_eq_true rfl, Nat.le_of_ble_eq_true rfl⟩) 0 [0, 2] [1, 0, 2, 0, 0, 0, 0, 0] [] (w_X7_basin cyI cyJ cyZ cyB cyO aT aT_present aT_told aT_present_kind aT_present_above aT_present_edge aT_present_pool aT_present_store aT_picture aT_trial aT_flow aT_shares aT_search aT_tape aT_sheets aT_usual aT_present_spot vT_pictured vT_present_basins vT_present_spring vT_present_hour vT_present_z u2.2 cT_present_kind cT_present_above cT_present_edge cT_present_pool cT_present_store) rfl rfl rfl rfl rfl (by decide +kernel) rfl rfl (Nat.le_of_ble_eq_true rfl) ⟨Nat.zero_le _, Nat.zero_le _⟩ dX7_basin_43 (fun H locs hP hD hS => ?_)
      obtain rfl := Option.some.inj h
      exact hret _ _ _ _ _ hP hD hS dX7_basin_46 rfl rfl
    · have h := br_neg c1 h
      refine lv_iload_n hx hb dX7_basin_33 rfl (lv_at hl 2 rfl) ?_
      obtain ⟨u3, hu3, h⟩ := bd_some h
      refine cl_Si (rest := []) F hK hP hD hS hA hl (t_X3_isKind l D cyI cyJ cyZ cyB cyO x1 u3 hu3) (va_cwS 1 hts gX7_basin_X3_isKind rfl rfl rfl (by decide +kernel) ⟨Nat.le_of_ble_eq_true rfl, Nat.le_of_ble_eq_true rfl⟩) [] [0, 0, 0, 0, 0, 0, 0, 0] [] (w_X7_basin cyI cyJ cyZ cyB cyO aT aT_present aT_told aT_present_kind aT_present_above aT_present_edge aT_present_pool aT_present_store aT_picture aT_trial aT_flow aT_shares aT_search aT_tape aT_sheets aT_usual aT_present_spot vT_pictured vT_present_basins vT_present_spring vT_present_hour vT_present_z cT_told cT_present_kind cT_present_above cT_present_edge cT_present_pool cT_present_store) rfl rfl rfl (by decide +kernel) rfl rfl (Nat.le_of_ble_eq_true rfl) ⟨Nat.zero_le _, Nat.zero_le _⟩ dX7_basin_34 (fun H locs hP hD hS => ?_)
      refine lv_if_ne (tgt := 47) hx hb dX7_basin_37 (by decide) (fun c4 => ?_) (fun c4 => ?_)
      · have h := br_neg c4 h
        refine lv_aload_n hx hb dX7_basin_47 rfl (lv_at hl 1 rfl) ?_
        refine va_get (D := D) (ci := 6) (v := .ref aT_present) (C := RX7) (T := TX7) (N := 11) hx hb hts in_X7 hown hK hP 0 rfl rfl 0 (by decide) q1 (fun _ h9 => h9) rfl dX7_basin_48 ?_
        refine va_get (D := D) (ci := 2) (v := .int vT_present_basins) (C := RX2) (T := TX2) (N := 10) hx hb hts in_X2 hown hK hP 1 rfl rfl 6 (by decide) q2 (fun _ h9 => h9) rfl dX7_basin_51 ?_
        refine lv_bipush (v := 10) hx hb dX7_basin_54 (by decide) ?_
        refine lv_icmp_lt (tgt := 66) hx hb dX7_basin_56 (by decide) (fun c5 => ?_) (fun c5 => ?_)
        · have h := br_pos c5 h
          refine lv_aload_n hx hb dX7_basin_66 rfl (lv_at hl 1 rfl) ?_
          refine va_get (D := D) (ci := 6) (v := .ref aT_present) (C := RX7) (T := TX7) (N := 11) hx hb hts in_X7 hown hK hP 0 rfl rfl 0 (by decide) q1 (fun _ h9 => h9) rfl dX7_basin_67 ?_
          refine lv_iload_n hx hb dX7_basin_70 rfl (lv_at hl 2 rfl) ?_
          refine lv_iload_n hx hb dX7_basin_71 rfl (lv_at hl 3 rfl) ?_
          refine lv_iconst (v := 1) hx hb dX7_basin_72 (by decide) ?_
          obtain ⟨u6, hu6, h⟩ := bd_some h
          refine cl_Vi (rest := []) F hK hP hD hS hA hl (t_X2_add l D cyI cyJ cyZ cyB cyO aT_present aT_present_kind aT_present_above aT_present_edge aT_present_pool aT_present_store aT_present_spot vT_present_basins vT_present_spring vT_present_hour vT_present_z cT_present_kind cT_present_above cT_present_edge cT_present_pool cT_present_store x1 x2 (1 : Int32) u6 hu6) (cwV 3 hts gX7_basin_X2_add rfl rfl rfl (by decide +kernel) ⟨Nat.le_of_ble_eq_true rfl, Nat.le_of_ble_eq_true rfl⟩) 1 [1, 3, 4, 5, 6, 7] [0, 1, 0, 2, 3, 4, 5, 6] [] (w_X7_basin cyI cyJ cyZ cyB cyO aT aT_present aT_told aT_present_kind aT_present_above aT_present_edge aT_present_pool aT_present_store aT_picture aT_trial aT_flow aT_shares aT_search aT_tape aT_sheets aT_usual aT_present_spot vT_pictured u6.2.1 vT_present_spring vT_present_hour vT_present_z cT_told u6.2.2.1 u6.2.2.2.1 u6.2.2.2.2.1 u6.2.2.2.2.2.1 u6.2.2.2.2.2.2) rfl rfl rfl rfl rfl (by decide +kernel) rfl rfl (Nat.le_of_ble_eq_true rfl) ⟨Nat.zero_le _, Nat.zero_le _⟩ dX7_basin_73 (fun H locs hP hD hS => ?_)
          obtain rfl := Option.some.inj h
          exact hret _ _ _ _ _ hP hD hS dX7_basin_76 rfl rfl
        · have h := br_neg c5 h
          refine lv_aload_n hx hb dX7_basin_59 rfl (lv_at hl 1 rfl) ?_
          refine lv_ldc (v := -1000002) hx hb hown q4 dX7_basin_60 ?_
          obtain ⟨u7, hu7, h⟩ := bd_some h
          refine cl_Vi (rest := []) F hK hP hD hS hA hl (t_X7_tell l D cyI cyJ cyZ cyB cyO aT aT_told aT_present aT_picture aT_trial aT_flow aT_shares aT_search aT_tape aT_sheets aT_usual vT_pictured cT_told (-1000002 : Int32) u7 hu7) (cwV 1 hts gX7_basin_X7_tell rfl rfl rfl (by decide +kernel) ⟨Nat.le_of_ble_eq_true rfl, Nat.le_of_ble_eq_true rfl⟩) 0 [0, 2] [1, 0, 2, 0, 0, 0, 0, 0] [] (w_X7_basin cyI cyJ cyZ cyB cyO aT aT_present aT_told aT_present_kind aT_present_above aT_present_edge aT_present_pool aT_present_store aT_picture aT_trial aT_flow aT_shares aT_search aT_tape aT_sheets aT_usual aT_present_spot vT_pictured vT_present_basins vT_present_spring vT_present_hour vT_present_z u7.2 cT_present_kind cT_present_above cT_present_edge cT_present_pool cT_present_store) rfl rfl rfl rfl rfl (by decide +kernel) rfl rfl (Nat.le_of_ble_eq_true rfl) ⟨Nat.zero_le _, Nat.zero_le _⟩ dX7_basin_62 (fun H locs hP hD hS => ?_)
          obtain rfl := Option.some.inj h
          exact hret _ _ _ _ _ hP hD hS dX7_basin_65 rfl rfl
      · have h := br_pos c4 h
        refine lv_aload_n hx hb dX7_basin_40 rfl (lv_at hl 1 rfl) ?_
        refine lv_ldc (v := -1000001) hx hb hown q3 dX7_basin_41 ?_
        obtain ⟨u8, hu8, h⟩ := bd_some h
        refine cl_Vi (rest := []) F hK hP hD hS hA hl (t_X7_tell l D cyI cyJ cyZ cyB cyO aT aT_told aT_present aT_picture aT_trial aT_flow aT_shares aT_search aT_tape aT_sheets aT_usual vT_pictured cT_told (-1000001 : Int32) u8 hu8) (cwV 1 hts gX7_basin_X7_tell rfl rfl rfl (by decide +kernel) ⟨Nat.le_of_ble_eq_true rfl, Nat.le_of_ble_eq_true rfl⟩) 0 [0, 2] [1, 0, 2, 0, 0, 0, 0, 0] [] (w_X7_basin cyI cyJ cyZ cyB cyO aT aT_present aT_told aT_present_kind aT_present_above aT_present_edge aT_present_pool aT_present_store aT_picture aT_trial aT_flow aT_shares aT_search aT_tape aT_sheets aT_usual aT_present_spot vT_pictured vT_present_basins vT_present_spring vT_present_hour vT_present_z u8.2 cT_present_kind cT_present_above cT_present_edge cT_present_pool cT_present_store) rfl rfl rfl rfl rfl (by decide +kernel) rfl rfl (Nat.le_of_ble_eq_true rfl) ⟨Nat.zero_le _, Nat.zero_le _⟩ dX7_basin_43 (fun H locs hP hD hS => ?_)
        obtain rfl := Option.some.inj h
        exact hret _ _ _ _ _ hP hD hS dX7_basin_46 rfl rfl
  refine lv_if_ne (tgt := 23) hx hb dX7_basin_7 (by decide) (fun c9 => ?_) (fun c9 => ?_)
  · have h := br_neg c9 h
    refine lv_aload_n hx hb dX7_basin_23 rfl (lv_at hl 0 rfl) ?_
    refine lv_iload_n hx hb dX7_basin_24 rfl (lv_at hl 2 rfl) ?_
    obtain ⟨u10, hu10, h⟩ := bd_some h
    refine cl_Vi (rest := []) F hK hP hD hS hA hl (t_X7_isBasin l D cyI cyJ cyZ cyB cyO aT aT_present aT_picture aT_trial aT_flow aT_shares aT_search aT_tape aT_sheets aT_usual aT_told aT_present_kind aT_present_above aT_present_edge aT_present_pool aT_present_store aT_present_spot vT_pictured vT_present_basins vT_present_spring vT_present_hour vT_present_z x2 u10 hu10) (cwV 1 hts gX7_basin_X7_isBasin rfl rfl rfl (by decide +kernel) ⟨Nat.le_of_ble_eq_true rfl, Nat.le_of_ble_eq_true rfl⟩) 0 [0, 1] [1, 2, 0, 0, 0, 0, 0, 0] [] (w_X7_basin cyI cyJ cyZ cyB cyO aT aT_present aT_told aT_present_kind aT_present_above aT_present_edge aT_present_pool aT_present_store aT_picture aT_trial aT_flow aT_shares aT_search aT_tape aT_sheets aT_usual aT_present_spot vT_pictured vT_present_basins vT_present_spring vT_present_hour vT_present_z cT_told cT_present_kind cT_present_above cT_present_edge cT_present_pool cT_present_store) rfl rfl rfl rfl rfl (by decide +kernel) rfl rfl (Nat.le_of_ble_eq_true rfl) ⟨Nat.zero_le _, Nat.zero_le _⟩ dX7_basin_25 (fun H locs hP hD hS => ?_)
    exact j28 u10 vT_present_basins cT_told cT_present_kind cT_present_above cT_present_edge cT_present_pool cT_present_store _ _ _ hP hD hS (lv_sub hl [0, 1, 2] rfl) h
  · have h := br_pos c9 h
    refine lv_iload_n hx hb dX7_basin_10 rfl (lv_at hl 2 rfl) ?_
    refine lv_iconst (v := -1) hx hb dX7_basin_11 (by decide) ?_
    refine lv_icmp_ne (tgt := 19) hx hb dX7_basin_12 (by decide) (fun c11 => ?_) (fun c11 => ?_)
    · have h := br_neg c11 h
      refine lv_iconst (v := 0) hx hb dX7_basin_19 (by decide) ?_
      refine lv_goto (tgt := 28) hx hb dX7_basin_20 (by decide) ?_
      exact j28 (0 : Int32) vT_present_basins cT_told cT_present_kind cT_present_above cT_present_edge cT_present_pool cT_present_store _ _ _ hP hD hS (lv_sub hl [0, 1, 2] rfl) h
    · have h := br_pos c11 h
      refine lv_iconst (v := 1) hx hb dX7_basin_15 (by decide) ?_
      refine lv_goto (tgt := 28) hx hb dX7_basin_16 (by decide) ?_
      exact j28 (1 : Int32) vT_present_basins cT_told cT_present_kind cT_present_above cT_present_edge cT_present_pool cT_present_store _ _ _ hP hD hS (lv_sub hl [0, 1, 2] rfl) h
/-! ===== X7_of ===== -/
def w_X7_of (cyI cyJ cyZ cyB cyO : ClassId) (aT aT_present aT_present_kind aT_present_above aT_present_edge aT_present_pool aT_present_store aT_flow aT_flow_width aT_flow_goesOn aT_flow_comes aT_flow_keeps aT_flow_holds aT_told aT_picture aT_trial aT_shares aT_search aT_tape aT_sheets aT_usual aT_present_spot : Nat) (vT_pictured : Int32) (vT_present_basins : Int32) (vT_present_spring : Int32) (vT_present_hour : Int32) (vT_present_z : Int32) (cT_present_kind : Nat → Int32) (cT_present_above : Nat → Int32) (cT_present_edge : Nat → Int32) (cT_present_pool : Nat → Int32) (cT_present_store : Nat → Int32) (vT_flow_kept : Int32) (vT_flow_leaked : Int32) (vT_flow_ranOff : Int32) (vT_flow_uneven : Int32) (vT_flow_keptInAll : Int32) (vT_flow_leakedInAll : Int32) (vT_flow_ranOffInAll : Int32) (cT_flow_width : Nat → Int32) (cT_flow_goesOn : Nat → Int32) (cT_flow_comes : Nat → Int32) (cT_flow_keeps : Nat → Int32) (cT_flow_holds : Nat → Int32) (cT_told : Nat → Int32) : va_W := [(aT, .inr (6, [.ref aT_present, .ref aT_picture, .ref aT_trial, .ref aT_flow, .ref aT_shares, .ref aT_search, .ref aT_tape, .ref aT_sheets, .ref aT_usual, .ref aT_told, .int vT_pictured])), (aT_present, .inr (2, [.ref aT_present_kind, .ref aT_present_above, .ref aT_present_edge, .ref aT_present_pool, .ref aT_present_store, .ref aT_present_spot, .int vT_present_basins, .int vT_present_spring, .int vT_present_hour, .int vT_present_z])), (aT_present_kind, .inl (cyI, 10, .inl cT_present_kind)), (aT_present_above, .inl (cyI, 10, .inl cT_present_above)), (aT_present_edge, .inl (cyI, 10, .inl cT_present_edge)), (aT_present_pool, .inl (cyI, 10, .inl cT_present_pool)), (aT_present_store, .inl (cyI, 10, .inl cT_present_store)), (aT_flow, .inr (1, [.ref aT_flow_comes, .ref aT_flow_keeps, .ref aT_flow_holds, .ref aT_flow_goesOn, .ref aT_flow_width, .int vT_flow_kept, .int vT_flow_leaked, .int vT_flow_ranOff, .int vT_flow_uneven, .int vT_flow_keptInAll, .int vT_flow_leakedInAll, .int vT_flow_ranOffInAll])), (aT_flow_width, .inl (cyI, 10, .inl cT_flow_width)), (aT_flow_goesOn, .inl (cyI, 10, .inl cT_flow_goesOn)), (aT_flow_comes, .inl (cyI, 10, .inl cT_flow_comes)), (aT_flow_keeps, .inl (cyI, 10, .inl cT_flow_keeps)), (aT_flow_holds, .inl (cyI, 10, .inl cT_flow_holds)), (aT_told, .inl (cyI, 7, .inl cT_told))]
set_option maxHeartbeats 4000000 in
set_option maxRecDepth 100000 in
theorem t_X7_of (l : Launch) (D : va_G) (cyI cyJ cyZ cyB cyO : ClassId) (aT aT_present aT_present_kind aT_present_above aT_present_edge aT_present_pool aT_present_store aT_flow aT_flow_width aT_flow_goesOn aT_flow_comes aT_flow_keeps aT_flow_holds aT_told aT_picture aT_trial aT_shares aT_search aT_tape aT_sheets aT_usual aT_present_spot : Nat) (vT_pictured : Int32) (vT_present_basins : Int32) (vT_present_spring : Int32) (vT_present_hour : Int32) (vT_present_z : Int32) (cT_present_kind : Nat → Int32) (cT_present_above : Nat → Int32) (cT_present_edge : Nat → Int32) (cT_present_pool : Nat → Int32) (cT_present_store : Nat → Int32) (vT_flow_kept : Int32) (vT_flow_leaked : Int32) (vT_flow_ranOff : Int32) (vT_flow_uneven : Int32) (vT_flow_keptInAll : Int32) (vT_flow_leakedInAll : Int32) (vT_flow_ranOffInAll : Int32) (cT_flow_width : Nat → Int32) (cT_flow_goesOn : Nat → Int32) (cT_flow_comes : Nat → Int32) (cT_flow_keeps : Nat → Int32) (cT_flow_holds : Nat → Int32) (cT_told : Nat → Int32) (x1 : Int32) (x2 : Int32) (out : Int32 × Int32 × Int32 × Int32 × Int32 × (Nat → Int32) × (Nat → Int32) × (Nat → Int32) × (Nat → Int32) × (Nat → Int32) × (Nat → Int32)) (h : f_X7_of x1 x2 vT_present_basins vT_present_spring cT_present_kind cT_present_above cT_present_edge cT_present_pool cT_present_store vT_flow_kept vT_flow_leaked vT_flow_ranOff vT_flow_uneven cT_flow_width cT_flow_goesOn cT_flow_comes cT_flow_keeps cT_flow_holds cT_told = some out) : Mi l yX7_of wsX7_of ({ frames := 4, cells := 0, slots := 0, locals := 90 } : Room) D (tyA cyI cyJ cyZ cyB cyO) [.ref aT, .int x1, .int x2] (w_X7_of cyI cyJ cyZ cyB cyO aT aT_present aT_present_kind aT_present_above aT_present_edge aT_present_pool aT_present_store aT_flow aT_flow_width aT_flow_goesOn aT_flow_comes aT_flow_keeps aT_flow_holds aT_told aT_picture aT_trial aT_shares aT_search aT_tape aT_sheets aT_usual aT_present_spot vT_pictured vT_present_basins vT_present_spring vT_present_hour vT_present_z cT_present_kind cT_present_above cT_present_edge cT_present_pool cT_present_store vT_flow_kept vT_flow_leaked vT_flow_ranOff vT_flow_uneven vT_flow_keptInAll vT_flow_leakedInAll vT_flow_ranOffInAll cT_flow_width cT_flow_goesOn cT_flow_comes cT_flow_keeps cT_flow_holds cT_told) (w_X7_of cyI cyJ cyZ cyB cyO aT aT_present aT_present_kind aT_present_above aT_present_edge aT_present_pool aT_present_store aT_flow aT_flow_width aT_flow_goesOn aT_flow_comes aT_flow_keeps aT_flow_holds aT_told aT_picture aT_trial aT_shares aT_search aT_tape aT_sheets aT_usual aT_present_spot vT_pictured vT_present_basins vT_present_spring vT_present_hour vT_present_z cT_present_kind cT_present_above cT_present_edge cT_present_pool cT_present_store out.2.1 out.2.2.1 out.2.2.2.1 out.2.2.2.2.1 vT_flow_keptInAll vT_flow_leakedInAll vT_flow_ranOffInAll out.2.2.2.2.2.1 out.2.2.2.2.2.2.1 out.2.2.2.2.2.2.2.1 out.2.2.2.2.2.2.2.2.1 out.2.2.2.2.2.2.2.2.2.1 out.2.2.2.2.2.2.2.2.2.2) out.1 := by
  refine Mi.mk (cc := cX7_of) (maxL := 3) (rt := .int) (own := RX7) (by decide) rfl rfl (Nat.le_of_ble_eq_true rfl) ?_
  intro p e s m args below meth c A Q F hK hP hD hA hret ls hl
  obtain ⟨hx, hb, hml, hown, hts⟩ := id F
  have hS : va_S A s.heap s.heap [] := va_S.rf
  have hl : lv_has ls 3 [(0, .ref aT), (1, .int x1), (2, .int x2)] := hl
  have in_X7 : ∀ w ∈ wsX70, w ∈ wsX7_of := by decide +kernel
  have in_X2 : ∀ w ∈ wsX20, w ∈ wsX7_of := by decide +kernel
  have in_X1 : ∀ w ∈ wsX10, w ∈ wsX7_of := by decide +kernel
  have q11 := hts (Cond.methodLink RX7 72 yX7_isBasin) (List.mem_of_getElem? (i := 11) rfl)
  have q2 := hts (Cond.fieldLink RX7 12 "ThirdFountain" "present" "LThirdFountain$Fountain;") (List.mem_of_getElem? (i := 2) rfl)
  have q3 := hts (Cond.fieldLink RX7 91 "ThirdFountain$Fountain" "kind" "[I") (List.mem_of_getElem? (i := 3) rfl)
  have q4 := hts (Cond.fieldLink RX7 94 "ThirdFountain$Fountain" "above" "[I") (List.mem_of_getElem? (i := 4) rfl)
  have q5 := hts (Cond.fieldLink RX7 97 "ThirdFountain$Fountain" "edge" "[I") (List.mem_of_getElem? (i := 5) rfl)
  have q6 := hts (Cond.fieldLink RX7 100 "ThirdFountain$Fountain" "pool" "[I") (List.mem_of_getElem? (i := 6) rfl)
  have q7 := hts (Cond.fieldLink RX7 103 "ThirdFountain$Fountain" "store" "[I") (List.mem_of_getElem? (i := 7) rfl)
  have q8 := hts (Cond.fieldLink RX7 25 "ThirdFountain" "flow" "LThirdFountain$Flow;") (List.mem_of_getElem? (i := 8) rfl)
  have q22 := hts (Cond.methodLink RX7 106 yX1_reckon) (List.mem_of_getElem? (i := 22) rfl)
  have q9 := hts (Cond.fieldLink RX7 110 "ThirdFountain$Flow" "comes" "[I") (List.mem_of_getElem? (i := 9) rfl)
  have q10 := hts (Cond.fieldLink RX7 113 "ThirdFountain$Flow" "keeps" "[I") (List.mem_of_getElem? (i := 10) rfl)
  have q1 := hts (Cond.constant RX7 81 (-1000001)) (List.mem_of_getElem? (i := 1) rfl)
  have q17 := hts (Cond.methodLink RX7 82 yX7_tell) (List.mem_of_getElem? (i := 17) rfl)
  unfold f_X7_of at h
  refine lv_aload_n hx hb dX7_of_0 rfl (lv_at hl 0 rfl) ?_
  refine lv_iload_n hx hb dX7_of_1 rfl (lv_at hl 1 rfl) ?_
  obtain ⟨u1, hu1, h⟩ := bd_some h
  refine cl_Vi (rest := []) F hK hP hD hS hA hl (t_X7_isBasin l D cyI cyJ cyZ cyB cyO aT aT_present aT_picture aT_trial aT_flow aT_shares aT_search aT_tape aT_sheets aT_usual aT_told aT_present_kind aT_present_above aT_present_edge aT_present_pool aT_present_store aT_present_spot vT_pictured vT_present_basins vT_present_spring vT_present_hour vT_present_z x1 u1 hu1) (cwV 1 hts gX7_of_X7_isBasin rfl rfl rfl (by decide +kernel) ⟨Nat.le_of_ble_eq_true rfl, Nat.le_of_ble_eq_true rfl⟩) 0 [0, 1] [1, 2, 0, 0, 0, 0, 0, 0, 0, 0, 0, 0, 0, 0] [] (w_X7_of cyI cyJ cyZ cyB cyO aT aT_present aT_present_kind aT_present_above aT_present_edge aT_present_pool aT_present_store aT_flow aT_flow_width aT_flow_goesOn aT_flow_comes aT_flow_keeps aT_flow_holds aT_told aT_picture aT_trial aT_shares aT_search aT_tape aT_sheets aT_usual aT_present_spot vT_pictured vT_present_basins vT_present_spring vT_present_hour vT_present_z cT_present_kind cT_present_above cT_present_edge cT_present_pool cT_present_store vT_flow_kept vT_flow_leaked vT_flow_ranOff vT_flow_uneven vT_flow_keptInAll vT_flow_leakedInAll vT_flow_ranOffInAll cT_flow_width cT_flow_goesOn cT_flow_comes cT_flow_keeps cT_flow_holds cT_told) rfl rfl rfl rfl rfl (by decide +kernel) rfl rfl (Nat.le_of_ble_eq_true rfl) ⟨Nat.zero_le _, Nat.zero_le _⟩ dX7_of_2 (fun H locs hP hD hS => ?_)
  refine lv_if_ne (tgt := 15) hx hb dX7_of_5 (by decide) (fun c2 => ?_) (fun c2 => ?_)
  · have h := br_neg c2 h
    refine lv_iload_n hx hb dX7_of_15 rfl (lv_at hl 2 rfl) ?_
    by_cases c3 : x2 = 0
    · have h := br_pos c3 h
      refine lv_tableIn (off := 44) (tgt := 60) hx hb dX7_of_16 (by rw [c3]; decide) (by rw [c3]; decide) (by rw [c3]; rfl) (by decide) ?_
      refine lv_aload_n hx hb dX7_of_60 rfl (lv_at hl 0 rfl) ?_
      refine va_get (D := D) (ci := 6) (v := .ref aT_present) (C := RX7) (T := TX7) (N := 11) hx hb hts in_X7 hown hK hP 0 rfl rfl 0 (by decide) q2 (fun _ h9 => h9) rfl dX7_of_61 ?_
      refine va_get (D := D) (ci := 2) (v := .ref aT_present_kind) (C := RX2) (T := TX2) (N := 10) hx hb hts in_X2 hown hK hP 1 rfl rfl 0 (by decide) q3 (fun _ h9 => h9) rfl dX7_of_64 ?_
      refine lv_iload_n hx hb dX7_of_67 rfl (lv_at hl 1 rfl) ?_
      obtain ⟨g10, h⟩ := gd_some h
      refine va_iald hx hb hK hP 2 0 rfl rfl g10 dX7_of_68 ?_
      obtain rfl := Option.some.inj h
      exact hret _ _ _ _ _ hP hD hS dX7_of_69 rfl rfl
    have h := br_neg c3 h
    by_cases c4 : x2 = 1
    · have h := br_pos c4 h
      refine lv_tableIn (off := 54) (tgt := 70) hx hb dX7_of_16 (by rw [c4]; decide) (by rw [c4]; decide) (by rw [c4]; rfl) (by decide) ?_
      refine lv_aload_n hx hb dX7_of_70 rfl (lv_at hl 0 rfl) ?_
      refine va_get (D := D) (ci := 6) (v := .ref aT_present) (C := RX7) (T := TX7) (N := 11) hx hb hts in_X7 hown hK hP 0 rfl rfl 0 (by decide) q2 (fun _ h9 => h9) rfl dX7_of_71 ?_
      refine va_get (D := D) (ci := 2) (v := .ref aT_present_above) (C := RX2) (T := TX2) (N := 10) hx hb hts in_X2 hown hK hP 1 rfl rfl 1 (by decide) q4 (fun _ h9 => h9) rfl dX7_of_74 ?_
      refine lv_iload_n hx hb dX7_of_77 rfl (lv_at hl 1 rfl) ?_
      obtain ⟨g11, h⟩ := gd_some h
      refine va_iald hx hb hK hP 3 0 rfl rfl g11 dX7_of_78 ?_
      obtain rfl := Option.some.inj h
      exact hret _ _ _ _ _ hP hD hS dX7_of_79 rfl rfl
    have h := br_neg c4 h
    by_cases c5 : x2 = 2
    · have h := br_pos c5 h
      refine lv_tableIn (off := 64) (tgt := 80) hx hb dX7_of_16 (by rw [c5]; decide) (by rw [c5]; decide) (by rw [c5]; rfl) (by decide) ?_
      refine lv_aload_n hx hb dX7_of_80 rfl (lv_at hl 0 rfl) ?_
      refine va_get (D := D) (ci := 6) (v := .ref aT_present) (C := RX7) (T := TX7) (N := 11) hx hb hts in_X7 hown hK hP 0 rfl rfl 0 (by decide) q2 (fun _ h9 => h9) rfl dX7_of_81 ?_
      refine va_get (D := D) (ci := 2) (v := .ref aT_present_edge) (C := RX2) (T := TX2) (N := 10) hx hb hts in_X2 hown hK hP 1 rfl rfl 2 (by decide) q5 (fun _ h9 => h9) rfl dX7_of_84 ?_
      refine lv_iload_n hx hb dX7_of_87 rfl (lv_at hl 1 rfl) ?_
      obtain ⟨g12, h⟩ := gd_some h
      refine va_iald hx hb hK hP 4 0 rfl rfl g12 dX7_of_88 ?_
      obtain rfl := Option.some.inj h
      exact hret _ _ _ _ _ hP hD hS dX7_of_89 rfl rfl
    have h := br_neg c5 h
    by_cases c6 : x2 = 3
    · have h := br_pos c6 h
      refine lv_tableIn (off := 74) (tgt := 90) hx hb dX7_of_16 (by rw [c6]; decide) (by rw [c6]; decide) (by rw [c6]; rfl) (by decide) ?_
      refine lv_aload_n hx hb dX7_of_90 rfl (lv_at hl 0 rfl) ?_
      refine va_get (D := D) (ci := 6) (v := .ref aT_present) (C := RX7) (T := TX7) (N := 11) hx hb hts in_X7 hown hK hP 0 rfl rfl 0 (by decide) q2 (fun _ h9 => h9) rfl dX7_of_91 ?_
      refine va_get (D := D) (ci := 2) (v := .ref aT_present_pool) (C := RX2) (T := TX2) (N := 10) hx hb hts in_X2 hown hK hP 1 rfl rfl 3 (by decide) q6 (fun _ h9 => h9) rfl dX7_of_94 ?_
      refine lv_iload_n hx hb dX7_of_97 rfl (lv_at hl 1 rfl) ?_
      obtain ⟨g13, h⟩ := gd_some h
      refine va_iald hx hb hK hP 5 0 rfl rfl g13 dX7_of_98 ?_
      obtain rfl := Option.some.inj h
      exact hret _ _ _ _ _ hP hD hS dX7_of_99 rfl rfl
    have h := br_neg c6 h
    by_cases c7 : x2 = 4
    · have h := br_pos c7 h
      refine lv_tableIn (off := 84) (tgt := 100) hx hb dX7_of_16 (by rw [c7]; decide) (by rw [c7]; decide) (by rw [c7]; rfl) (by decide) ?_
      refine lv_aload_n hx hb dX7_of_100 rfl (lv_at hl 0 rfl) ?_
      refine va_get (D := D) (ci := 6) (v := .ref aT_present) (C := RX7) (T := TX7) (N := 11) hx hb hts in_X7 hown hK hP 0 rfl rfl 0 (by decide) q2 (fun _ h9 => h9) rfl dX7_of_101 ?_
      refine va_get (D := D) (ci := 2) (v := .ref aT_present_store) (C := RX2) (T := TX2) (N := 10) hx hb hts in_X2 hown hK hP 1 rfl rfl 4 (by decide) q7 (fun _ h9 => h9) rfl dX7_of_104 ?_
      refine lv_iload_n hx hb dX7_of_107 rfl (lv_at hl 1 rfl) ?_
      obtain ⟨g14, h⟩ := gd_some h
      refine va_iald hx hb hK hP 6 0 rfl rfl g14 dX7_of_108 ?_
      obtain rfl := Option.some.inj h
      exact hret _ _ _ _ _ hP hD hS dX7_of_109 rfl rfl
    have h := br_neg c7 h
    by_cases c8 : x2 = 5
    · have h := br_pos c8 h
      refine lv_tableIn (off := 94) (tgt := 110) hx hb dX7_of_16 (by rw [c8]; decide) (by rw [c8]; decide) (by rw [c8]; rfl) (by decide) ?_
      refine lv_aload_n hx hb dX7_of_110 rfl (lv_at hl 0 rfl) ?_
      refine va_get (D := D) (ci := 6) (v := .ref aT_flow) (C := RX7) (T := TX7) (N := 11) hx hb hts in_X7 hown hK hP 0 rfl rfl 3 (by decide) q8 (fun _ h9 => h9) rfl dX7_of_111 ?_
      refine lv_aload_n hx hb dX7_of_114 rfl (lv_at hl 0 rfl) ?_
      refine va_get (D := D) (ci := 6) (v := .ref aT_present) (C := RX7) (T := TX7) (N := 11) hx hb hts in_X7 hown hK hP 0 rfl rfl 0 (by decide) q2 (fun _ h9 => h9) rfl dX7_of_115 ?_
      obtain ⟨u15, hu15, h⟩ := bd_some h
      refine cl_Vv (rest := []) F hK hP hD hS hA hl (t_X1_reckon l D cyI cyJ cyZ cyB cyO aT_flow aT_present aT_flow_width aT_present_above aT_present_edge aT_flow_goesOn aT_flow_comes aT_present_kind aT_flow_keeps aT_present_pool aT_flow_holds aT_present_store aT_present_spot vT_flow_kept vT_flow_leaked vT_flow_ranOff vT_flow_uneven vT_flow_keptInAll vT_flow_leakedInAll vT_flow_ranOffInAll vT_present_basins vT_present_spring vT_present_hour vT_present_z cT_flow_width cT_present_above cT_present_edge cT_flow_goesOn cT_flow_comes cT_present_kind cT_flow_keeps cT_present_pool cT_flow_holds u15 hu15) (cwV 1 hts gX7_of_X1_reckon rfl rfl rfl (by decide +kernel) ⟨Nat.le_of_ble_eq_true rfl, Nat.le_of_ble_eq_true rfl⟩) 7 [7, 1, 8, 3, 4, 9, 10, 2, 11, 5, 12] [0, 2, 8, 4, 5, 10, 0, 1, 3, 6, 7, 9, 11, 0] [] (w_X7_of cyI cyJ cyZ cyB cyO aT aT_present aT_present_kind aT_present_above aT_present_edge aT_present_pool aT_present_store aT_flow aT_flow_width aT_flow_goesOn aT_flow_comes aT_flow_keeps aT_flow_holds aT_told aT_picture aT_trial aT_shares aT_search aT_tape aT_sheets aT_usual aT_present_spot vT_pictured vT_present_basins vT_present_spring vT_present_hour vT_present_z cT_present_kind cT_present_above cT_present_edge cT_present_pool cT_present_store u15.1 u15.2.1 u15.2.2.1 u15.2.2.2.1 vT_flow_keptInAll vT_flow_leakedInAll vT_flow_ranOffInAll u15.2.2.2.2.1 u15.2.2.2.2.2.1 u15.2.2.2.2.2.2.1 u15.2.2.2.2.2.2.2.1 u15.2.2.2.2.2.2.2.2 cT_told) rfl rfl rfl rfl rfl (by decide +kernel) rfl rfl (Nat.le_of_ble_eq_true rfl) ⟨Nat.zero_le _, Nat.zero_le _⟩ dX7_of_118 (fun H locs hP hD hS => ?_)
      refine lv_aload_n hx hb dX7_of_121 rfl (lv_at hl 0 rfl) ?_
      refine va_get (D := D) (ci := 6) (v := .ref aT_flow) (C := RX7) (T := TX7) (N := 11) hx hb hts in_X7 hown hK hP 0 rfl rfl 3 (by decide) q8 (fun _ h9 => h9) rfl dX7_of_122 ?_
      refine va_get (D := D) (ci := 1) (v := .ref aT_flow_comes) (C := RX1) (T := TX1) (N := 12) hx hb hts in_X1 hown hK hP 7 rfl rfl 0 (by decide) q9 (fun _ h9 => h9) rfl dX7_of_125 ?_
      refine lv_iload_n hx hb dX7_of_128 rfl (lv_at hl 1 rfl) ?_
      obtain ⟨g16, h⟩ := gd_some h
      refine va_iald hx hb hK hP 10 0 rfl rfl g16 dX7_of_129 ?_
      obtain rfl := Option.some.inj h
      exact hret _ _ _ _ _ hP hD hS dX7_of_130 rfl rfl
    have h := br_neg c8 h
    by_cases c9 : x2 = 6
    · have h := br_pos c9 h
      refine lv_tableIn (off := 115) (tgt := 131) hx hb dX7_of_16 (by rw [c9]; decide) (by rw [c9]; decide) (by rw [c9]; rfl) (by decide) ?_
      refine lv_aload_n hx hb dX7_of_131 rfl (lv_at hl 0 rfl) ?_
      refine va_get (D := D) (ci := 6) (v := .ref aT_flow) (C := RX7) (T := TX7) (N := 11) hx hb hts in_X7 hown hK hP 0 rfl rfl 3 (by decide) q8 (fun _ h9 => h9) rfl dX7_of_132 ?_
      refine lv_aload_n hx hb dX7_of_135 rfl (lv_at hl 0 rfl) ?_
      refine va_get (D := D) (ci := 6) (v := .ref aT_present) (C := RX7) (T := TX7) (N := 11) hx hb hts in_X7 hown hK hP 0 rfl rfl 0 (by decide) q2 (fun _ h9 => h9) rfl dX7_of_136 ?_
      obtain ⟨u17, hu17, h⟩ := bd_some h
      refine cl_Vv (rest := []) F hK hP hD hS hA hl (t_X1_reckon l D cyI cyJ cyZ cyB cyO aT_flow aT_present aT_flow_width aT_present_above aT_present_edge aT_flow_goesOn aT_flow_comes aT_present_kind aT_flow_keeps aT_present_pool aT_flow_holds aT_present_store aT_present_spot vT_flow_kept vT_flow_leaked vT_flow_ranOff vT_flow_uneven vT_flow_keptInAll vT_flow_leakedInAll vT_flow_ranOffInAll vT_present_basins vT_present_spring vT_present_hour vT_present_z cT_flow_width cT_present_above cT_present_edge cT_flow_goesOn cT_flow_comes cT_present_kind cT_flow_keeps cT_present_pool cT_flow_holds u17 hu17) (cwV 1 hts gX7_of_X1_reckon rfl rfl rfl (by decide +kernel) ⟨Nat.le_of_ble_eq_true rfl, Nat.le_of_ble_eq_true rfl⟩) 7 [7, 1, 8, 3, 4, 9, 10, 2, 11, 5, 12] [0, 2, 8, 4, 5, 10, 0, 1, 3, 6, 7, 9, 11, 0] [] (w_X7_of cyI cyJ cyZ cyB cyO aT aT_present aT_present_kind aT_present_above aT_present_edge aT_present_pool aT_present_store aT_flow aT_flow_width aT_flow_goesOn aT_flow_comes aT_flow_keeps aT_flow_holds aT_told aT_picture aT_trial aT_shares aT_search aT_tape aT_sheets aT_usual aT_present_spot vT_pictured vT_present_basins vT_present_spring vT_present_hour vT_present_z cT_present_kind cT_present_above cT_present_edge cT_present_pool cT_present_store u17.1 u17.2.1 u17.2.2.1 u17.2.2.2.1 vT_flow_keptInAll vT_flow_leakedInAll vT_flow_ranOffInAll u17.2.2.2.2.1 u17.2.2.2.2.2.1 u17.2.2.2.2.2.2.1 u17.2.2.2.2.2.2.2.1 u17.2.2.2.2.2.2.2.2 cT_told) rfl rfl rfl rfl rfl (by decide +kernel) rfl rfl (Nat.le_of_ble_eq_true rfl) ⟨Nat.zero_le _, Nat.zero_le _⟩ dX7_of_139 (fun H locs hP hD hS => ?_)
      refine lv_aload_n hx hb dX7_of_142 rfl (lv_at hl 0 rfl) ?_
      refine va_get (D := D) (ci := 6) (v := .ref aT_flow) (C := RX7) (T := TX7) (N := 11) hx hb hts in_X7 hown hK hP 0 rfl rfl 3 (by decide) q8 (fun _ h9 => h9) rfl dX7_of_143 ?_
      refine va_get (D := D) (ci := 1) (v := .ref aT_flow_keeps) (C := RX1) (T := TX1) (N := 12) hx hb hts in_X1 hown hK hP 7 rfl rfl 1 (by decide) q10 (fun _ h9 => h9) rfl dX7_of_146 ?_
      refine lv_iload_n hx hb dX7_of_149 rfl (lv_at hl 1 rfl) ?_
      obtain ⟨g18, h⟩ := gd_some h
      refine va_iald hx hb hK hP 11 0 rfl rfl g18 dX7_of_150 ?_
      obtain rfl := Option.some.inj h
      exact hret _ _ _ _ _ hP hD hS dX7_of_151 rfl rfl
    have h := br_neg c9 h
    refine lv_tableOut (tgt := 152) hx hb dX7_of_16 (sw_c c3 (sw_c c4 (sw_c c5 (sw_c c6 (sw_c c7 (sw_c c8 (sw_c c9 (sw_n (by decide))))))))) (by decide) ?_
    refine lv_aload_n hx hb dX7_of_152 rfl (lv_at hl 0 rfl) ?_
    refine lv_ldc (v := -1000001) hx hb hown q1 dX7_of_153 ?_
    obtain ⟨u19, hu19, h⟩ := bd_some h
    refine cl_Vi (rest := []) F hK hP hD hS hA hl (t_X7_tell l D cyI cyJ cyZ cyB cyO aT aT_told aT_present aT_picture aT_trial aT_flow aT_shares aT_search aT_tape aT_sheets aT_usual vT_pictured cT_told (-1000001 : Int32) u19 hu19) (cwV 1 hts gX7_of_X7_tell rfl rfl rfl (by decide +kernel) ⟨Nat.le_of_ble_eq_true rfl, Nat.le_of_ble_eq_true rfl⟩) 0 [0, 13] [1, 0, 0, 0, 0, 0, 0, 0, 0, 0, 0, 0, 0, 2] [] (w_X7_of cyI cyJ cyZ cyB cyO aT aT_present aT_present_kind aT_present_above aT_present_edge aT_present_pool aT_present_store aT_flow aT_flow_width aT_flow_goesOn aT_flow_comes aT_flow_keeps aT_flow_holds aT_told aT_picture aT_trial aT_shares aT_search aT_tape aT_sheets aT_usual aT_present_spot vT_pictured vT_present_basins vT_present_spring vT_present_hour vT_present_z cT_present_kind cT_present_above cT_present_edge cT_present_pool cT_present_store vT_flow_kept vT_flow_leaked vT_flow_ranOff vT_flow_uneven vT_flow_keptInAll vT_flow_leakedInAll vT_flow_ranOffInAll cT_flow_width cT_flow_goesOn cT_flow_comes cT_flow_keeps cT_flow_holds u19.2) rfl rfl rfl rfl rfl (by decide +kernel) rfl rfl (Nat.le_of_ble_eq_true rfl) ⟨Nat.zero_le _, Nat.zero_le _⟩ dX7_of_155 (fun H locs hP hD hS => ?_)
    obtain rfl := Option.some.inj h
    exact hret _ _ _ _ _ hP hD hS dX7_of_158 rfl rfl
  · have h := br_pos c2 h
    refine lv_aload_n hx hb dX7_of_8 rfl (lv_at hl 0 rfl) ?_
    refine lv_ldc (v := -1000001) hx hb hown q1 dX7_of_9 ?_
    obtain ⟨u20, hu20, h⟩ := bd_some h
    refine cl_Vi (rest := []) F hK hP hD hS hA hl (t_X7_tell l D cyI cyJ cyZ cyB cyO aT aT_told aT_present aT_picture aT_trial aT_flow aT_shares aT_search aT_tape aT_sheets aT_usual vT_pictured cT_told (-1000001 : Int32) u20 hu20) (cwV 1 hts gX7_of_X7_tell rfl rfl rfl (by decide +kernel) ⟨Nat.le_of_ble_eq_true rfl, Nat.le_of_ble_eq_true rfl⟩) 0 [0, 13] [1, 0, 0, 0, 0, 0, 0, 0, 0, 0, 0, 0, 0, 2] [] (w_X7_of cyI cyJ cyZ cyB cyO aT aT_present aT_present_kind aT_present_above aT_present_edge aT_present_pool aT_present_store aT_flow aT_flow_width aT_flow_goesOn aT_flow_comes aT_flow_keeps aT_flow_holds aT_told aT_picture aT_trial aT_shares aT_search aT_tape aT_sheets aT_usual aT_present_spot vT_pictured vT_present_basins vT_present_spring vT_present_hour vT_present_z cT_present_kind cT_present_above cT_present_edge cT_present_pool cT_present_store vT_flow_kept vT_flow_leaked vT_flow_ranOff vT_flow_uneven vT_flow_keptInAll vT_flow_leakedInAll vT_flow_ranOffInAll cT_flow_width cT_flow_goesOn cT_flow_comes cT_flow_keeps cT_flow_holds u20.2) rfl rfl rfl rfl rfl (by decide +kernel) rfl rfl (Nat.le_of_ble_eq_true rfl) ⟨Nat.zero_le _, Nat.zero_le _⟩ dX7_of_11 (fun H locs hP hD hS => ?_)
    obtain rfl := Option.some.inj h
    exact hret _ _ _ _ _ hP hD hS dX7_of_14 rfl rfl
/-! ===== X7_within ===== -/
def w_X7_within (cyI cyJ cyZ cyB cyO : ClassId) : va_W := []
set_option maxHeartbeats 4000000 in
set_option maxRecDepth 100000 in
theorem t_X7_within (l : Launch) (D : va_G) (cyI cyJ cyZ cyB cyO : ClassId) (x0 : Int32) (x1 : Int32) (x2 : Int32) (out : Int32) (h : f_X7_within x0 x1 x2 = some out) : Mi l yX7_within wsX7_within ({ frames := 0, cells := 0, slots := 0, locals := 0 } : Room) D (tyA cyI cyJ cyZ cyB cyO) [.int x0, .int x1, .int x2] (w_X7_within cyI cyJ cyZ cyB cyO ) (w_X7_within cyI cyJ cyZ cyB cyO ) out := by
  refine Mi.mk (cc := cX7_within) (maxL := 3) (rt := .boolean) (own := RX7) (by decide) rfl rfl (Nat.le_of_ble_eq_true rfl) ?_
  intro p e s m args below meth c A Q F hK hP hD hA hret ls hl
  obtain ⟨hx, hb, hml, hown, hts⟩ := id F
  have hS : va_S A s.heap s.heap [] := va_S.rf
  have hl : lv_has ls 3 [(0, .int x0), (1, .int x1), (2, .int x2)] := hl
  unfold f_X7_within at h
  refine lv_iload_n hx hb dX7_within_0 rfl (lv_at hl 0 rfl) ?_
  refine lv_iload_n hx hb dX7_within_1 rfl (lv_at hl 1 rfl) ?_
  refine lv_icmp_lt (tgt := 14) hx hb dX7_within_2 (by decide) (fun c1 => ?_) (fun c1 => ?_)
  · have h := br_pos c1 h
    refine lv_iconst (v := 0) hx hb dX7_within_14 (by decide) ?_
    obtain rfl := Option.some.inj h
    exact hret _ _ _ _ _ hP hD hS dX7_within_15 (nz_of (Or.inl rfl)) rfl
  · have h := br_neg c1 h
    refine lv_iload_n hx hb dX7_within_5 rfl (lv_at hl 0 rfl) ?_
    refine lv_iload_n hx hb dX7_within_6 rfl (lv_at hl 2 rfl) ?_
    refine lv_icmp_gt (tgt := 14) hx hb dX7_within_7 (by decide) (fun c2 => ?_) (fun c2 => ?_)
    · have h := br_pos c2 h
      refine lv_iconst (v := 0) hx hb dX7_within_14 (by decide) ?_
      obtain rfl := Option.some.inj h
      exact hret _ _ _ _ _ hP hD hS dX7_within_15 (nz_of (Or.inl rfl)) rfl
    · have h := br_neg c2 h
      refine lv_iconst (v := 1) hx hb dX7_within_10 (by decide) ?_
      refine lv_goto (tgt := 15) hx hb dX7_within_11 (by decide) ?_
      obtain rfl := Option.some.inj h
      exact hret _ _ _ _ _ hP hD hS dX7_within_15 (nz_of (Or.inr rfl)) rfl
/-! ===== X7_put ===== -/
def w_X7_put (cyI cyJ cyZ cyB cyO : ClassId) (ar1 aT aT_told aT_present aT_picture aT_trial aT_flow aT_shares aT_search aT_tape aT_sheets aT_usual : Nat) (cr1 : Nat → Int32) (vT_pictured : Int32) (cT_told : Nat → Int32) : va_W := [(ar1, .inl (cyI, 10, .inl cr1)), (aT, .inr (6, [.ref aT_present, .ref aT_picture, .ref aT_trial, .ref aT_flow, .ref aT_shares, .ref aT_search, .ref aT_tape, .ref aT_sheets, .ref aT_usual, .ref aT_told, .int vT_pictured])), (aT_told, .inl (cyI, 7, .inl cT_told))]
set_option maxHeartbeats 4000000 in
set_option maxRecDepth 100000 in
theorem t_X7_put (l : Launch) (D : va_G) (cyI cyJ cyZ cyB cyO : ClassId) (ar1 aT aT_told aT_present aT_picture aT_trial aT_flow aT_shares aT_search aT_tape aT_sheets aT_usual : Nat) (cr1 : Nat → Int32) (vT_pictured : Int32) (cT_told : Nat → Int32) (x2 : Int32) (x3 : Int32) (x4 : Int32) (x5 : Int32) (out : Int32 × (Nat → Int32) × (Nat → Int32)) (h : f_X7_put x2 x3 x4 x5 cr1 cT_told = some out) : Mi l yX7_put wsX7_put ({ frames := 1, cells := 0, slots := 0, locals := 22 } : Room) D (tyA cyI cyJ cyZ cyB cyO) [.ref aT, .ref ar1, .int x2, .int x3, .int x4, .int x5] (w_X7_put cyI cyJ cyZ cyB cyO ar1 aT aT_told aT_present aT_picture aT_trial aT_flow aT_shares aT_search aT_tape aT_sheets aT_usual cr1 vT_pictured cT_told) (w_X7_put cyI cyJ cyZ cyB cyO ar1 aT aT_told aT_present aT_picture aT_trial aT_flow aT_shares aT_search aT_tape aT_sheets aT_usual out.2.1 vT_pictured out.2.2) out.1 := by
  refine Mi.mk (cc := cX7_put) (maxL := 7) (rt := .int) (own := RX7) (by decide) rfl rfl (Nat.le_of_ble_eq_true rfl) ?_
  intro p e s m args below meth c A Q F hK hP hD hA hret ls hl
  obtain ⟨hx, hb, hml, hown, hts⟩ := id F
  have hS : va_S A s.heap s.heap [] := va_S.rf
  have hl : lv_has ls 7 [(0, .ref aT), (1, .ref ar1), (2, .int x2), (3, .int x3), (4, .int x4), (5, .int x5)] := hl
  have q2 := hts (Cond.methodLink RX7 122 yX7_within) (List.mem_of_getElem? (i := 2) rfl)
  have q1 := hts (Cond.constant RX7 81 (-1000001)) (List.mem_of_getElem? (i := 1) rfl)
  have q6 := hts (Cond.methodLink RX7 82 yX7_tell) (List.mem_of_getElem? (i := 6) rfl)
  unfold f_X7_put at h
  refine lv_iload_n hx hb dX7_put_0 rfl (lv_at hl 3 rfl) ?_
  refine lv_iload hx hb dX7_put_1 (lv_at hl 4 rfl) ?_
  refine lv_iload hx hb dX7_put_3 (lv_at hl 5 rfl) ?_
  obtain ⟨u1, hu1, h⟩ := bd_some h
  refine cl_Si (rest := []) F hK hP hD hS hA hl (t_X7_within l D cyI cyJ cyZ cyB cyO x3 x4 x5 u1 hu1) (va_cwS 3 hts gX7_put_X7_within rfl rfl rfl (by decide +kernel) ⟨Nat.le_of_ble_eq_true rfl, Nat.le_of_ble_eq_true rfl⟩) [] [0, 0, 0] [] (w_X7_put cyI cyJ cyZ cyB cyO ar1 aT aT_told aT_present aT_picture aT_trial aT_flow aT_shares aT_search aT_tape aT_sheets aT_usual cr1 vT_pictured cT_told) rfl rfl rfl (by decide +kernel) rfl rfl (Nat.le_of_ble_eq_true rfl) ⟨Nat.zero_le _, Nat.zero_le _⟩ dX7_put_5 (fun H locs hP hD hS => ?_)
  refine lv_if_ne (tgt := 18) hx hb dX7_put_8 (by decide) (fun c2 => ?_) (fun c2 => ?_)
  · have h := br_neg c2 h
    refine lv_aload_n hx hb dX7_put_18 rfl (lv_at hl 1 rfl) ?_
    refine lv_iload_n hx hb dX7_put_19 rfl (lv_at hl 2 rfl) ?_
    obtain ⟨g3, h⟩ := gd_some h
    refine va_iald hx hb hK hP 0 0 rfl rfl g3 dX7_put_20 ?_
    refine lv_topi (fun z4 ez4 => ?_)
    have h := nm_at ez4 h
    refine lv_istore (lv' := [(6, .int z4), (0, .ref aT), (1, .ref ar1), (2, .int x2), (3, .int x3), (4, .int x4), (5, .int x5)]) hx hb dX7_put_21 hl (by decide) rfl (fun ls hl => ?_)
    refine lv_aload_n hx hb dX7_put_23 rfl (lv_at hl 2 rfl) ?_
    refine lv_iload_n hx hb dX7_put_24 rfl (lv_at hl 3 rfl) ?_
    refine lv_iload_n hx hb dX7_put_25 rfl (lv_at hl 4 rfl) ?_
    obtain ⟨g5, h⟩ := gd_some h
    refine va_iast hx hb hK hP hD hS 0 0 rfl rfl g5 dX7_put_26 (fun H locs hP hD hS => ?_)
    have hP : va_P D vwCl (w_X7_put cyI cyJ cyZ cyB cyO ar1 aT aT_told aT_present aT_picture aT_trial aT_flow aT_shares aT_search aT_tape aT_sheets aT_usual (upd cr1 x2.toNatClampNeg x3) vT_pictured cT_told) H := hP
    have hD : va_D A (w_X7_put cyI cyJ cyZ cyB cyO ar1 aT aT_told aT_present aT_picture aT_trial aT_flow aT_shares aT_search aT_tape aT_sheets aT_usual (upd cr1 x2.toNatClampNeg x3) vT_pictured cT_told) := hD
    refine lv_iload hx hb dX7_put_27 (lv_at hl 0 rfl) ?_
    obtain rfl := Option.some.inj h
    exact hret _ _ _ _ _ hP hD hS dX7_put_29 rfl rfl
  · have h := br_pos c2 h
    refine lv_aload_n hx hb dX7_put_11 rfl (lv_at hl 0 rfl) ?_
    refine lv_ldc (v := -1000001) hx hb hown q1 dX7_put_12 ?_
    obtain ⟨u6, hu6, h⟩ := bd_some h
    refine cl_Vi (rest := []) F hK hP hD hS hA hl (t_X7_tell l D cyI cyJ cyZ cyB cyO aT aT_told aT_present aT_picture aT_trial aT_flow aT_shares aT_search aT_tape aT_sheets aT_usual vT_pictured cT_told (-1000001 : Int32) u6 hu6) (cwV 1 hts gX7_put_X7_tell rfl rfl rfl (by decide +kernel) ⟨Nat.le_of_ble_eq_true rfl, Nat.le_of_ble_eq_true rfl⟩) 1 [1, 2] [0, 1, 2] [] (w_X7_put cyI cyJ cyZ cyB cyO ar1 aT aT_told aT_present aT_picture aT_trial aT_flow aT_shares aT_search aT_tape aT_sheets aT_usual cr1 vT_pictured u6.2) rfl rfl rfl rfl rfl (by decide +kernel) rfl rfl (Nat.le_of_ble_eq_true rfl) ⟨Nat.zero_le _, Nat.zero_le _⟩ dX7_put_14 (fun H locs hP hD hS => ?_)
    obtain rfl := Option.some.inj h
    exact hret _ _ _ _ _ hP hD hS dX7_put_17 rfl rfl
/-! ===== X7_change ===== -/
def w_X7_change (cyI cyJ cyZ cyB cyO : ClassId) (aT aT_present aT_present_kind aT_told aT_present_edge aT_present_pool aT_present_store aT_picture aT_trial aT_flow aT_shares aT_search aT_tape aT_sheets aT_usual aT_present_above aT_present_spot : Nat) (vT_pictured : Int32) (vT_present_basins : Int32) (vT_present_spring : Int32) (vT_present_hour : Int32) (vT_present_z : Int32) (cT_present_kind : Nat → Int32) (cT_told : Nat → Int32) (cT_present_edge : Nat → Int32) (cT_present_pool : Nat → Int32) (cT_present_store : Nat → Int32) : va_W := [(aT, .inr (6, [.ref aT_present, .ref aT_picture, .ref aT_trial, .ref aT_flow, .ref aT_shares, .ref aT_search, .ref aT_tape, .ref aT_sheets, .ref aT_usual, .ref aT_told, .int vT_pictured])), (aT_present, .inr (2, [.ref aT_present_kind, .ref aT_present_above, .ref aT_present_edge, .ref aT_present_pool, .ref aT_present_store, .ref aT_present_spot, .int vT_present_basins, .int vT_present_spring, .int vT_present_hour, .int vT_present_z])), (aT_present_kind, .inl (cyI, 10, .inl cT_present_kind)), (aT_told, .inl (cyI, 7, .inl cT_told)), (aT_present_edge, .inl (cyI, 10, .inl cT_present_edge)), (aT_present_pool, .inl (cyI, 10, .inl cT_present_pool)), (aT_present_store, .inl (cyI, 10, .inl cT_present_store))]
set_option maxHeartbeats 4000000 in
set_option maxRecDepth 100000 in
theorem t_X7_change (l : Launch) (D : va_G) (cyI cyJ cyZ cyB cyO : ClassId) (aT aT_present aT_present_kind aT_told aT_present_edge aT_present_pool aT_present_store aT_picture aT_trial aT_flow aT_shares aT_search aT_tape aT_sheets aT_usual aT_present_above aT_present_spot : Nat) (vT_pictured : Int32) (vT_present_basins : Int32) (vT_present_spring : Int32) (vT_present_hour : Int32) (vT_present_z : Int32) (cT_present_kind : Nat → Int32) (cT_told : Nat → Int32) (cT_present_edge : Nat → Int32) (cT_present_pool : Nat → Int32) (cT_present_store : Nat → Int32) (x1 : Int32) (x2 : Int32) (x3 : Int32) (out : Int32 × (Nat → Int32) × (Nat → Int32) × (Nat → Int32) × (Nat → Int32) × (Nat → Int32)) (h : f_X7_change x1 x2 x3 vT_present_basins cT_present_kind cT_told cT_present_edge cT_present_pool cT_present_store = some out) : Mi l yX7_change wsX7_change ({ frames := 2, cells := 0, slots := 0, locals := 48 } : Room) D (tyA cyI cyJ cyZ cyB cyO) [.ref aT, .int x1, .int x2, .int x3] (w_X7_change cyI cyJ cyZ cyB cyO aT aT_present aT_present_kind aT_told aT_present_edge aT_present_pool aT_present_store aT_picture aT_trial aT_flow aT_shares aT_search aT_tape aT_sheets aT_usual aT_present_above aT_present_spot vT_pictured vT_present_basins vT_present_spring vT_present_hour vT_present_z cT_present_kind cT_told cT_present_edge cT_present_pool cT_present_store) (w_X7_change cyI cyJ cyZ cyB cyO aT aT_present aT_present_kind aT_told aT_present_edge aT_present_pool aT_present_store aT_picture aT_trial aT_flow aT_shares aT_search aT_tape aT_sheets aT_usual aT_present_above aT_present_spot vT_pictured vT_present_basins vT_present_spring vT_present_hour vT_present_z out.2.1 out.2.2.1 out.2.2.2.1 out.2.2.2.2.1 out.2.2.2.2.2) out.1 := by
  refine Mi.mk (cc := cX7_change) (maxL := 4) (rt := .int) (own := RX7) (by decide) rfl rfl (Nat.le_of_ble_eq_true rfl) ?_
  intro p e s m args below meth c A Q F hK hP hD hA hret ls hl
  obtain ⟨hx, hb, hml, hown, hts⟩ := id F
  have hS : va_S A s.heap s.heap [] := va_S.rf
  have hl : lv_has ls 4 [(0, .ref aT), (1, .int x1), (2, .int x2), (3, .int x3)] := hl
  have in_X7 : ∀ w ∈ wsX70, w ∈ wsX7_change := by decide +kernel
  have in_X2 : ∀ w ∈ wsX20, w ∈ wsX7_change := by decide +kernel
  have q8 := hts (Cond.methodLink RX7 72 yX7_isBasin) (List.mem_of_getElem? (i := 8) rfl)
  have q2 := hts (Cond.fieldLink RX7 12 "ThirdFountain" "present" "LThirdFountain$Fountain;") (List.mem_of_getElem? (i := 2) rfl)
  have q3 := hts (Cond.fieldLink RX7 91 "ThirdFountain$Fountain" "kind" "[I") (List.mem_of_getElem? (i := 3) rfl)
  have q19 := hts (Cond.methodLink RX7 116 yX7_put) (List.mem_of_getElem? (i := 19) rfl)
  have q1 := hts (Cond.constant RX7 81 (-1000001)) (List.mem_of_getElem? (i := 1) rfl)
  have q14 := hts (Cond.methodLink RX7 82 yX7_tell) (List.mem_of_getElem? (i := 14) rfl)
  have q4 := hts (Cond.fieldLink RX7 97 "ThirdFountain$Fountain" "edge" "[I") (List.mem_of_getElem? (i := 4) rfl)
  have q5 := hts (Cond.fieldLink RX7 100 "ThirdFountain$Fountain" "pool" "[I") (List.mem_of_getElem? (i := 5) rfl)
  have q6 := hts (Cond.fieldLink RX7 103 "ThirdFountain$Fountain" "store" "[I") (List.mem_of_getElem? (i := 6) rfl)
  have q7 := hts (Cond.constant RX7 120 (99999999)) (List.mem_of_getElem? (i := 7) rfl)
  unfold f_X7_change at h
  refine lv_aload_n hx hb dX7_change_0 rfl (lv_at hl 0 rfl) ?_
  refine lv_iload_n hx hb dX7_change_1 rfl (lv_at hl 1 rfl) ?_
  obtain ⟨u1, hu1, h⟩ := bd_some h
  refine cl_Vi (rest := []) F hK hP hD hS hA hl (t_X7_isBasin l D cyI cyJ cyZ cyB cyO aT aT_present aT_picture aT_trial aT_flow aT_shares aT_search aT_tape aT_sheets aT_usual aT_told aT_present_kind aT_present_above aT_present_edge aT_present_pool aT_present_store aT_present_spot vT_pictured vT_present_basins vT_present_spring vT_present_hour vT_present_z x1 u1 hu1) (cwV 1 hts gX7_change_X7_isBasin rfl rfl rfl (by decide +kernel) ⟨Nat.le_of_ble_eq_true rfl, Nat.le_of_ble_eq_true rfl⟩) 0 [0, 1] [1, 2, 0, 0, 0, 0, 0] [] (w_X7_change cyI cyJ cyZ cyB cyO aT aT_present aT_present_kind aT_told aT_present_edge aT_present_pool aT_present_store aT_picture aT_trial aT_flow aT_shares aT_search aT_tape aT_sheets aT_usual aT_present_above aT_present_spot vT_pictured vT_present_basins vT_present_spring vT_present_hour vT_present_z cT_present_kind cT_told cT_present_edge cT_present_pool cT_present_store) rfl rfl rfl rfl rfl (by decide +kernel) rfl rfl (Nat.le_of_ble_eq_true rfl) ⟨Nat.zero_le _, Nat.zero_le _⟩ dX7_change_2 (fun H locs hP hD hS => ?_)
  refine lv_if_ne (tgt := 15) hx hb dX7_change_5 (by decide) (fun c2 => ?_) (fun c2 => ?_)
  · have h := br_neg c2 h
    refine lv_iload_n hx hb dX7_change_15 rfl (lv_at hl 2 rfl) ?_
    by_cases c3 : x2 = 0
    · have h := br_pos c3 h
      refine lv_tableIn (off := 36) (tgt := 52) hx hb dX7_change_16 (by rw [c3]; decide) (by rw [c3]; decide) (by rw [c3]; rfl) (by decide) ?_
      refine lv_aload_n hx hb dX7_change_52 rfl (lv_at hl 0 rfl) ?_
      refine lv_aload_n hx hb dX7_change_53 rfl (lv_at hl 0 rfl) ?_
      refine va_get (D := D) (ci := 6) (v := .ref aT_present) (C := RX7) (T := TX7) (N := 11) hx hb hts in_X7 hown hK hP 0 rfl rfl 0 (by decide) q2 (fun _ h9 => h9) rfl dX7_change_54 ?_
      refine va_get (D := D) (ci := 2) (v := .ref aT_present_kind) (C := RX2) (T := TX2) (N := 10) hx hb hts in_X2 hown hK hP 1 rfl rfl 0 (by decide) q3 (fun _ h9 => h9) rfl dX7_change_57 ?_
      refine lv_iload_n hx hb dX7_change_60 rfl (lv_at hl 1 rfl) ?_
      refine lv_iload_n hx hb dX7_change_61 rfl (lv_at hl 3 rfl) ?_
      refine lv_iconst (v := 0) hx hb dX7_change_62 (by decide) ?_
      refine lv_bipush (v := 6) hx hb dX7_change_63 (by decide) ?_
      obtain ⟨u8, hu8, h⟩ := bd_some h
      refine cl_Vi (rest := []) F hK hP hD hS hA hl (t_X7_put l D cyI cyJ cyZ cyB cyO aT_present_kind aT aT_told aT_present aT_picture aT_trial aT_flow aT_shares aT_search aT_tape aT_sheets aT_usual cT_present_kind vT_pictured cT_told x1 x3 (0 : Int32) (6 : Int32) u8 hu8) (cwV 5 hts gX7_change_X7_put rfl rfl rfl (by decide +kernel) ⟨Nat.le_of_ble_eq_true rfl, Nat.le_of_ble_eq_true rfl⟩) 0 [2, 0, 3] [2, 0, 1, 3, 0, 0, 0] [] (w_X7_change cyI cyJ cyZ cyB cyO aT aT_present aT_present_kind aT_told aT_present_edge aT_present_pool aT_present_store aT_picture aT_trial aT_flow aT_shares aT_search aT_tape aT_sheets aT_usual aT_present_above aT_present_spot vT_pictured vT_present_basins vT_present_spring vT_present_hour vT_present_z u8.2.1 u8.2.2 cT_present_edge cT_present_pool cT_present_store) rfl rfl rfl rfl rfl (by decide +kernel) rfl rfl (Nat.le_of_ble_eq_true rfl) ⟨Nat.zero_le _, Nat.zero_le _⟩ dX7_change_65 (fun H locs hP hD hS => ?_)
      obtain rfl := Option.some.inj h
      exact hret _ _ _ _ _ hP hD hS dX7_change_68 rfl rfl
    have h := br_neg c3 h
    by_cases c4 : x2 = 1
    · have h := br_pos c4 h
      refine lv_tableIn (off := 104) (tgt := 120) hx hb dX7_change_16 (by rw [c4]; decide) (by rw [c4]; decide) (by rw [c4]; rfl) (by decide) ?_
      refine lv_aload_n hx hb dX7_change_120 rfl (lv_at hl 0 rfl) ?_
      refine lv_ldc (v := -1000001) hx hb hown q1 dX7_change_121 ?_
      obtain ⟨u9, hu9, h⟩ := bd_some h
      refine cl_Vi (rest := []) F hK hP hD hS hA hl (t_X7_tell l D cyI cyJ cyZ cyB cyO aT aT_told aT_present aT_picture aT_trial aT_flow aT_shares aT_search aT_tape aT_sheets aT_usual vT_pictured cT_told (-1000001 : Int32) u9 hu9) (cwV 1 hts gX7_change_X7_tell rfl rfl rfl (by decide +kernel) ⟨Nat.le_of_ble_eq_true rfl, Nat.le_of_ble_eq_true rfl⟩) 0 [0, 3] [1, 0, 0, 2, 0, 0, 0] [] (w_X7_change cyI cyJ cyZ cyB cyO aT aT_present aT_present_kind aT_told aT_present_edge aT_present_pool aT_present_store aT_picture aT_trial aT_flow aT_shares aT_search aT_tape aT_sheets aT_usual aT_present_above aT_present_spot vT_pictured vT_present_basins vT_present_spring vT_present_hour vT_present_z cT_present_kind u9.2 cT_present_edge cT_present_pool cT_present_store) rfl rfl rfl rfl rfl (by decide +kernel) rfl rfl (Nat.le_of_ble_eq_true rfl) ⟨Nat.zero_le _, Nat.zero_le _⟩ dX7_change_123 (fun H locs hP hD hS => ?_)
      obtain rfl := Option.some.inj h
      exact hret _ _ _ _ _ hP hD hS dX7_change_126 rfl rfl
    have h := br_neg c4 h
    by_cases c5 : x2 = 2
    · have h := br_pos c5 h
      refine lv_tableIn (off := 53) (tgt := 69) hx hb dX7_change_16 (by rw [c5]; decide) (by rw [c5]; decide) (by rw [c5]; rfl) (by decide) ?_
      refine lv_aload_n hx hb dX7_change_69 rfl (lv_at hl 0 rfl) ?_
      refine lv_aload_n hx hb dX7_change_70 rfl (lv_at hl 0 rfl) ?_
      refine va_get (D := D) (ci := 6) (v := .ref aT_present) (C := RX7) (T := TX7) (N := 11) hx hb hts in_X7 hown hK hP 0 rfl rfl 0 (by decide) q2 (fun _ h9 => h9) rfl dX7_change_71 ?_
      refine va_get (D := D) (ci := 2) (v := .ref aT_present_edge) (C := RX2) (T := TX2) (N := 10) hx hb hts in_X2 hown hK hP 1 rfl rfl 2 (by decide) q4 (fun _ h9 => h9) rfl dX7_change_74 ?_
      refine lv_iload_n hx hb dX7_change_77 rfl (lv_at hl 1 rfl) ?_
      refine lv_iload_n hx hb dX7_change_78 rfl (lv_at hl 3 rfl) ?_
      refine lv_iconst (v := 1) hx hb dX7_change_79 (by decide) ?_
      refine lv_bipush (v := 9) hx hb dX7_change_80 (by decide) ?_
      obtain ⟨u10, hu10, h⟩ := bd_some h
      refine cl_Vi (rest := []) F hK hP hD hS hA hl (t_X7_put l D cyI cyJ cyZ cyB cyO aT_present_edge aT aT_told aT_present aT_picture aT_trial aT_flow aT_shares aT_search aT_tape aT_sheets aT_usual cT_present_edge vT_pictured cT_told x1 x3 (1 : Int32) (9 : Int32) u10 hu10) (cwV 5 hts gX7_change_X7_put rfl rfl rfl (by decide +kernel) ⟨Nat.le_of_ble_eq_true rfl, Nat.le_of_ble_eq_true rfl⟩) 0 [4, 0, 3] [2, 0, 0, 3, 1, 0, 0] [] (w_X7_change cyI cyJ cyZ cyB cyO aT aT_present aT_present_kind aT_told aT_present_edge aT_present_pool aT_present_store aT_picture aT_trial aT_flow aT_shares aT_search aT_tape aT_sheets aT_usual aT_present_above aT_present_spot vT_pictured vT_present_basins vT_present_spring vT_present_hour vT_present_z cT_present_kind u10.2.2 u10.2.1 cT_present_pool cT_present_store) rfl rfl rfl rfl rfl (by decide +kernel) rfl rfl (Nat.le_of_ble_eq_true rfl) ⟨Nat.zero_le _, Nat.zero_le _⟩ dX7_change_82 (fun H locs hP hD hS => ?_)
      obtain rfl := Option.some.inj h
      exact hret _ _ _ _ _ hP hD hS dX7_change_85 rfl rfl
    have h := br_neg c5 h
    by_cases c6 : x2 = 3
    · have h := br_pos c6 h
      refine lv_tableIn (off := 70) (tgt := 86) hx hb dX7_change_16 (by rw [c6]; decide) (by rw [c6]; decide) (by rw [c6]; rfl) (by decide) ?_
      refine lv_aload_n hx hb dX7_change_86 rfl (lv_at hl 0 rfl) ?_
      refine lv_aload_n hx hb dX7_change_87 rfl (lv_at hl 0 rfl) ?_
      refine va_get (D := D) (ci := 6) (v := .ref aT_present) (C := RX7) (T := TX7) (N := 11) hx hb hts in_X7 hown hK hP 0 rfl rfl 0 (by decide) q2 (fun _ h9 => h9) rfl dX7_change_88 ?_
      refine va_get (D := D) (ci := 2) (v := .ref aT_present_pool) (C := RX2) (T := TX2) (N := 10) hx hb hts in_X2 hown hK hP 1 rfl rfl 3 (by decide) q5 (fun _ h9 => h9) rfl dX7_change_91 ?_
      refine lv_iload_n hx hb dX7_change_94 rfl (lv_at hl 1 rfl) ?_
      refine lv_iload_n hx hb dX7_change_95 rfl (lv_at hl 3 rfl) ?_
      refine lv_iconst (v := 0) hx hb dX7_change_96 (by decide) ?_
      refine lv_bipush (v := 30) hx hb dX7_change_97 (by decide) ?_
      obtain ⟨u11, hu11, h⟩ := bd_some h
      refine cl_Vi (rest := []) F hK hP hD hS hA hl (t_X7_put l D cyI cyJ cyZ cyB cyO aT_present_pool aT aT_told aT_present aT_picture aT_trial aT_flow aT_shares aT_search aT_tape aT_sheets aT_usual cT_present_pool vT_pictured cT_told x1 x3 (0 : Int32) (30 : Int32) u11 hu11) (cwV 5 hts gX7_change_X7_put rfl rfl rfl (by decide +kernel) ⟨Nat.le_of_ble_eq_true rfl, Nat.le_of_ble_eq_true rfl⟩) 0 [5, 0, 3] [2, 0, 0, 3, 0, 1, 0] [] (w_X7_change cyI cyJ cyZ cyB cyO aT aT_present aT_present_kind aT_told aT_present_edge aT_present_pool aT_present_store aT_picture aT_trial aT_flow aT_shares aT_search aT_tape aT_sheets aT_usual aT_present_above aT_present_spot vT_pictured vT_present_basins vT_present_spring vT_present_hour vT_present_z cT_present_kind u11.2.2 cT_present_edge u11.2.1 cT_present_store) rfl rfl rfl rfl rfl (by decide +kernel) rfl rfl (Nat.le_of_ble_eq_true rfl) ⟨Nat.zero_le _, Nat.zero_le _⟩ dX7_change_99 (fun H locs hP hD hS => ?_)
      obtain rfl := Option.some.inj h
      exact hret _ _ _ _ _ hP hD hS dX7_change_102 rfl rfl
    have h := br_neg c6 h
    by_cases c7 : x2 = 4
    · have h := br_pos c7 h
      refine lv_tableIn (off := 87) (tgt := 103) hx hb dX7_change_16 (by rw [c7]; decide) (by rw [c7]; decide) (by rw [c7]; rfl) (by decide) ?_
      refine lv_aload_n hx hb dX7_change_103 rfl (lv_at hl 0 rfl) ?_
      refine lv_aload_n hx hb dX7_change_104 rfl (lv_at hl 0 rfl) ?_
      refine va_get (D := D) (ci := 6) (v := .ref aT_present) (C := RX7) (T := TX7) (N := 11) hx hb hts in_X7 hown hK hP 0 rfl rfl 0 (by decide) q2 (fun _ h9 => h9) rfl dX7_change_105 ?_
      refine va_get (D := D) (ci := 2) (v := .ref aT_present_store) (C := RX2) (T := TX2) (N := 10) hx hb hts in_X2 hown hK hP 1 rfl rfl 4 (by decide) q6 (fun _ h9 => h9) rfl dX7_change_108 ?_
      refine lv_iload_n hx hb dX7_change_111 rfl (lv_at hl 1 rfl) ?_
      refine lv_iload_n hx hb dX7_change_112 rfl (lv_at hl 3 rfl) ?_
      refine lv_iconst (v := 0) hx hb dX7_change_113 (by decide) ?_
      refine lv_ldc (v := 99999999) hx hb hown q7 dX7_change_114 ?_
      obtain ⟨u12, hu12, h⟩ := bd_some h
      refine cl_Vi (rest := []) F hK hP hD hS hA hl (t_X7_put l D cyI cyJ cyZ cyB cyO aT_present_store aT aT_told aT_present aT_picture aT_trial aT_flow aT_shares aT_search aT_tape aT_sheets aT_usual cT_present_store vT_pictured cT_told x1 x3 (0 : Int32) (99999999 : Int32) u12 hu12) (cwV 5 hts gX7_change_X7_put rfl rfl rfl (by decide +kernel) ⟨Nat.le_of_ble_eq_true rfl, Nat.le_of_ble_eq_true rfl⟩) 0 [6, 0, 3] [2, 0, 0, 3, 0, 0, 1] [] (w_X7_change cyI cyJ cyZ cyB cyO aT aT_present aT_present_kind aT_told aT_present_edge aT_present_pool aT_present_store aT_picture aT_trial aT_flow aT_shares aT_search aT_tape aT_sheets aT_usual aT_present_above aT_present_spot vT_pictured vT_present_basins vT_present_spring vT_present_hour vT_present_z cT_present_kind u12.2.2 cT_present_edge cT_present_pool u12.2.1) rfl rfl rfl rfl rfl (by decide +kernel) rfl rfl (Nat.le_of_ble_eq_true rfl) ⟨Nat.zero_le _, Nat.zero_le _⟩ dX7_change_116 (fun H locs hP hD hS => ?_)
      obtain rfl := Option.some.inj h
      exact hret _ _ _ _ _ hP hD hS dX7_change_119 rfl rfl
    have h := br_neg c7 h
    refine lv_tableOut (tgt := 120) hx hb dX7_change_16 (sw_c c3 (sw_c c4 (sw_c c5 (sw_c c6 (sw_c c7 (sw_n (by decide))))))) (by decide) ?_
    refine lv_aload_n hx hb dX7_change_120 rfl (lv_at hl 0 rfl) ?_
    refine lv_ldc (v := -1000001) hx hb hown q1 dX7_change_121 ?_
    obtain ⟨u13, hu13, h⟩ := bd_some h
    refine cl_Vi (rest := []) F hK hP hD hS hA hl (t_X7_tell l D cyI cyJ cyZ cyB cyO aT aT_told aT_present aT_picture aT_trial aT_flow aT_shares aT_search aT_tape aT_sheets aT_usual vT_pictured cT_told (-1000001 : Int32) u13 hu13) (cwV 1 hts gX7_change_X7_tell rfl rfl rfl (by decide +kernel) ⟨Nat.le_of_ble_eq_true rfl, Nat.le_of_ble_eq_true rfl⟩) 0 [0, 3] [1, 0, 0, 2, 0, 0, 0] [] (w_X7_change cyI cyJ cyZ cyB cyO aT aT_present aT_present_kind aT_told aT_present_edge aT_present_pool aT_present_store aT_picture aT_trial aT_flow aT_shares aT_search aT_tape aT_sheets aT_usual aT_present_above aT_present_spot vT_pictured vT_present_basins vT_present_spring vT_present_hour vT_present_z cT_present_kind u13.2 cT_present_edge cT_present_pool cT_present_store) rfl rfl rfl rfl rfl (by decide +kernel) rfl rfl (Nat.le_of_ble_eq_true rfl) ⟨Nat.zero_le _, Nat.zero_le _⟩ dX7_change_123 (fun H locs hP hD hS => ?_)
    obtain rfl := Option.some.inj h
    exact hret _ _ _ _ _ hP hD hS dX7_change_126 rfl rfl
  · have h := br_pos c2 h
    refine lv_aload_n hx hb dX7_change_8 rfl (lv_at hl 0 rfl) ?_
    refine lv_ldc (v := -1000001) hx hb hown q1 dX7_change_9 ?_
    obtain ⟨u14, hu14, h⟩ := bd_some h
    refine cl_Vi (rest := []) F hK hP hD hS hA hl (t_X7_tell l D cyI cyJ cyZ cyB cyO aT aT_told aT_present aT_picture aT_trial aT_flow aT_shares aT_search aT_tape aT_sheets aT_usual vT_pictured cT_told (-1000001 : Int32) u14 hu14) (cwV 1 hts gX7_change_X7_tell rfl rfl rfl (by decide +kernel) ⟨Nat.le_of_ble_eq_true rfl, Nat.le_of_ble_eq_true rfl⟩) 0 [0, 3] [1, 0, 0, 2, 0, 0, 0] [] (w_X7_change cyI cyJ cyZ cyB cyO aT aT_present aT_present_kind aT_told aT_present_edge aT_present_pool aT_present_store aT_picture aT_trial aT_flow aT_shares aT_search aT_tape aT_sheets aT_usual aT_present_above aT_present_spot vT_pictured vT_present_basins vT_present_spring vT_present_hour vT_present_z cT_present_kind u14.2 cT_present_edge cT_present_pool cT_present_store) rfl rfl rfl rfl rfl (by decide +kernel) rfl rfl (Nat.le_of_ble_eq_true rfl) ⟨Nat.zero_le _, Nat.zero_le _⟩ dX7_change_11 (fun H locs hP hD hS => ?_)
    obtain rfl := Option.some.inj h
    exact hret _ _ _ _ _ hP hD hS dX7_change_14 rfl rfl
/-! ===== X7_join ===== -/
def w_X7_join (cyI cyJ cyZ cyB cyO : ClassId) (aT aT_present aT_told aT_present_above aT_picture aT_trial aT_flow aT_shares aT_search aT_tape aT_sheets aT_usual aT_present_kind aT_present_edge aT_present_pool aT_present_store aT_present_spot : Nat) (vT_pictured : Int32) (vT_present_basins : Int32) (vT_present_spring : Int32) (vT_present_hour : Int32) (vT_present_z : Int32) (cT_told : Nat → Int32) (cT_present_above : Nat → Int32) : va_W := [(aT, .inr (6, [.ref aT_present, .ref aT_picture, .ref aT_trial, .ref aT_flow, .ref aT_shares, .ref aT_search, .ref aT_tape, .ref aT_sheets, .ref aT_usual, .ref aT_told, .int vT_pictured])), (aT_present, .inr (2, [.ref aT_present_kind, .ref aT_present_above, .ref aT_present_edge, .ref aT_present_pool, .ref aT_present_store, .ref aT_present_spot, .int vT_present_basins, .int vT_present_spring, .int vT_present_hour, .int vT_present_z])), (aT_told, .inl (cyI, 7, .inl cT_told)), (aT_present_above, .inl (cyI, 10, .inl cT_present_above))]
set_option maxHeartbeats 4000000 in
set_option maxRecDepth 100000 in
theorem t_X7_join (l : Launch) (D : va_G) (cyI cyJ cyZ cyB cyO : ClassId) (aT aT_present aT_told aT_present_above aT_picture aT_trial aT_flow aT_shares aT_search aT_tape aT_sheets aT_usual aT_present_kind aT_present_edge aT_present_pool aT_present_store aT_present_spot : Nat) (vT_pictured : Int32) (vT_present_basins : Int32) (vT_present_spring : Int32) (vT_present_hour : Int32) (vT_present_z : Int32) (cT_told : Nat → Int32) (cT_present_above : Nat → Int32) (x1 : Int32) (x2 : Int32) (out : Int32 × (Nat → Int32) × (Nat → Int32)) (h : f_X7_join x1 x2 vT_present_basins cT_told cT_present_above = some out) : Mi l yX7_join wsX7_join ({ frames := 1, cells := 0, slots := 0, locals := 22 } : Room) D (tyA cyI cyJ cyZ cyB cyO) [.ref aT, .int x1, .int x2] (w_X7_join cyI cyJ cyZ cyB cyO aT aT_present aT_told aT_present_above aT_picture aT_trial aT_flow aT_shares aT_search aT_tape aT_sheets aT_usual aT_present_kind aT_present_edge aT_present_pool aT_present_store aT_present_spot vT_pictured vT_present_basins vT_present_spring vT_present_hour vT_present_z cT_told cT_present_above) (w_X7_join cyI cyJ cyZ cyB cyO aT aT_present aT_told aT_present_above aT_picture aT_trial aT_flow aT_shares aT_search aT_tape aT_sheets aT_usual aT_present_kind aT_present_edge aT_present_pool aT_present_store aT_present_spot vT_pictured vT_present_basins vT_present_spring vT_present_hour vT_present_z out.2.1 out.2.2) out.1 := by
  refine Mi.mk (cc := cX7_join) (maxL := 4) (rt := .int) (own := RX7) (by decide) rfl rfl (Nat.le_of_ble_eq_true rfl) ?_
  intro p e s m args below meth c A Q F hK hP hD hA hret ls hl
  obtain ⟨hx, hb, hml, hown, hts⟩ := id F
  have hS : va_S A s.heap s.heap [] := va_S.rf
  have hl : lv_has ls 4 [(0, .ref aT), (1, .int x1), (2, .int x2)] := hl
  have in_X7 : ∀ w ∈ wsX70, w ∈ wsX7_join := by decide +kernel
  have in_X2 : ∀ w ∈ wsX20, w ∈ wsX7_join := by decide +kernel
  have q4 := hts (Cond.methodLink RX7 72 yX7_isBasin) (List.mem_of_getElem? (i := 4) rfl)
  have q1 := hts (Cond.constant RX7 81 (-1000001)) (List.mem_of_getElem? (i := 1) rfl)
  have q10 := hts (Cond.methodLink RX7 82 yX7_tell) (List.mem_of_getElem? (i := 10) rfl)
  have q2 := hts (Cond.fieldLink RX7 12 "ThirdFountain" "present" "LThirdFountain$Fountain;") (List.mem_of_getElem? (i := 2) rfl)
  have q3 := hts (Cond.fieldLink RX7 94 "ThirdFountain$Fountain" "above" "[I") (List.mem_of_getElem? (i := 3) rfl)
  unfold f_X7_join at h
  refine lv_aload_n hx hb dX7_join_0 rfl (lv_at hl 0 rfl) ?_
  refine lv_iload_n hx hb dX7_join_1 rfl (lv_at hl 1 rfl) ?_
  obtain ⟨u1, hu1, h⟩ := bd_some h
  refine cl_Vi (rest := []) F hK hP hD hS hA hl (t_X7_isBasin l D cyI cyJ cyZ cyB cyO aT aT_present aT_picture aT_trial aT_flow aT_shares aT_search aT_tape aT_sheets aT_usual aT_told aT_present_kind aT_present_above aT_present_edge aT_present_pool aT_present_store aT_present_spot vT_pictured vT_present_basins vT_present_spring vT_present_hour vT_present_z x1 u1 hu1) (cwV 1 hts gX7_join_X7_isBasin rfl rfl rfl (by decide +kernel) ⟨Nat.le_of_ble_eq_true rfl, Nat.le_of_ble_eq_true rfl⟩) 0 [0, 1] [1, 2, 0, 0] [] (w_X7_join cyI cyJ cyZ cyB cyO aT aT_present aT_told aT_present_above aT_picture aT_trial aT_flow aT_shares aT_search aT_tape aT_sheets aT_usual aT_present_kind aT_present_edge aT_present_pool aT_present_store aT_present_spot vT_pictured vT_present_basins vT_present_spring vT_present_hour vT_present_z cT_told cT_present_above) rfl rfl rfl rfl rfl (by decide +kernel) rfl rfl (Nat.le_of_ble_eq_true rfl) ⟨Nat.zero_le _, Nat.zero_le _⟩ dX7_join_2 (fun H locs hP hD hS => ?_)
  refine lv_if_eq (tgt := 17) hx hb dX7_join_5 (by decide) (fun c2 => ?_) (fun c2 => ?_)
  · have h := br_pos c2 h
    refine lv_aload_n hx hb dX7_join_17 rfl (lv_at hl 0 rfl) ?_
    refine lv_ldc (v := -1000001) hx hb hown q1 dX7_join_18 ?_
    obtain ⟨u3, hu3, h⟩ := bd_some h
    refine cl_Vi (rest := []) F hK hP hD hS hA hl (t_X7_tell l D cyI cyJ cyZ cyB cyO aT aT_told aT_present aT_picture aT_trial aT_flow aT_shares aT_search aT_tape aT_sheets aT_usual vT_pictured cT_told (-1000001 : Int32) u3 hu3) (cwV 1 hts gX7_join_X7_tell rfl rfl rfl (by decide +kernel) ⟨Nat.le_of_ble_eq_true rfl, Nat.le_of_ble_eq_true rfl⟩) 0 [0, 2] [1, 0, 2, 0] [] (w_X7_join cyI cyJ cyZ cyB cyO aT aT_present aT_told aT_present_above aT_picture aT_trial aT_flow aT_shares aT_search aT_tape aT_sheets aT_usual aT_present_kind aT_present_edge aT_present_pool aT_present_store aT_present_spot vT_pictured vT_present_basins vT_present_spring vT_present_hour vT_present_z u3.2 cT_present_above) rfl rfl rfl rfl rfl (by decide +kernel) rfl rfl (Nat.le_of_ble_eq_true rfl) ⟨Nat.zero_le _, Nat.zero_le _⟩ dX7_join_20 (fun H locs hP hD hS => ?_)
    obtain rfl := Option.some.inj h
    exact hret _ _ _ _ _ hP hD hS dX7_join_23 rfl rfl
  · have h := br_neg c2 h
    refine lv_iload_n hx hb dX7_join_8 rfl (lv_at hl 2 rfl) ?_
    refine lv_if_lt (tgt := 17) hx hb dX7_join_9 (by decide) (fun c4 => ?_) (fun c4 => ?_)
    · have h := br_pos c4 h
      refine lv_aload_n hx hb dX7_join_17 rfl (lv_at hl 0 rfl) ?_
      refine lv_ldc (v := -1000001) hx hb hown q1 dX7_join_18 ?_
      obtain ⟨u5, hu5, h⟩ := bd_some h
      refine cl_Vi (rest := []) F hK hP hD hS hA hl (t_X7_tell l D cyI cyJ cyZ cyB cyO aT aT_told aT_present aT_picture aT_trial aT_flow aT_shares aT_search aT_tape aT_sheets aT_usual vT_pictured cT_told (-1000001 : Int32) u5 hu5) (cwV 1 hts gX7_join_X7_tell rfl rfl rfl (by decide +kernel) ⟨Nat.le_of_ble_eq_true rfl, Nat.le_of_ble_eq_true rfl⟩) 0 [0, 2] [1, 0, 2, 0] [] (w_X7_join cyI cyJ cyZ cyB cyO aT aT_present aT_told aT_present_above aT_picture aT_trial aT_flow aT_shares aT_search aT_tape aT_sheets aT_usual aT_present_kind aT_present_edge aT_present_pool aT_present_store aT_present_spot vT_pictured vT_present_basins vT_present_spring vT_present_hour vT_present_z u5.2 cT_present_above) rfl rfl rfl rfl rfl (by decide +kernel) rfl rfl (Nat.le_of_ble_eq_true rfl) ⟨Nat.zero_le _, Nat.zero_le _⟩ dX7_join_20 (fun H locs hP hD hS => ?_)
      obtain rfl := Option.some.inj h
      exact hret _ _ _ _ _ hP hD hS dX7_join_23 rfl rfl
    · have h := br_neg c4 h
      refine lv_iload_n hx hb dX7_join_12 rfl (lv_at hl 2 rfl) ?_
      refine lv_iload_n hx hb dX7_join_13 rfl (lv_at hl 1 rfl) ?_
      refine lv_icmp_lt (tgt := 24) hx hb dX7_join_14 (by decide) (fun c6 => ?_) (fun c6 => ?_)
      · have h := br_pos c6 h
        refine lv_aload_n hx hb dX7_join_24 rfl (lv_at hl 0 rfl) ?_
        refine va_get (D := D) (ci := 6) (v := .ref aT_present) (C := RX7) (T := TX7) (N := 11) hx hb hts in_X7 hown hK hP 0 rfl rfl 0 (by decide) q2 (fun _ h9 => h9) rfl dX7_join_25 ?_
        refine va_get (D := D) (ci := 2) (v := .ref aT_present_above) (C := RX2) (T := TX2) (N := 10) hx hb hts in_X2 hown hK hP 1 rfl rfl 1 (by decide) q3 (fun _ h9 => h9) rfl dX7_join_28 ?_
        refine lv_iload_n hx hb dX7_join_31 rfl (lv_at hl 1 rfl) ?_
        obtain ⟨g7, h⟩ := gd_some h
        refine va_iald hx hb hK hP 3 0 rfl rfl g7 dX7_join_32 ?_
        refine lv_topi (fun z8 ez8 => ?_)
        have h := nm_at ez8 h
        refine lv_istore_n (lv' := [(3, .int z8), (0, .ref aT), (1, .int x1), (2, .int x2)]) hx hb dX7_join_33 rfl hl (by decide) rfl (fun ls hl => ?_)
        refine lv_aload_n hx hb dX7_join_34 rfl (lv_at hl 1 rfl) ?_
        refine va_get (D := D) (ci := 6) (v := .ref aT_present) (C := RX7) (T := TX7) (N := 11) hx hb hts in_X7 hown hK hP 0 rfl rfl 0 (by decide) q2 (fun _ h9 => h9) rfl dX7_join_35 ?_
        refine va_get (D := D) (ci := 2) (v := .ref aT_present_above) (C := RX2) (T := TX2) (N := 10) hx hb hts in_X2 hown hK hP 1 rfl rfl 1 (by decide) q3 (fun _ h9 => h9) rfl dX7_join_38 ?_
        refine lv_iload_n hx hb dX7_join_41 rfl (lv_at hl 2 rfl) ?_
        refine lv_iload_n hx hb dX7_join_42 rfl (lv_at hl 3 rfl) ?_
        obtain ⟨g9, h⟩ := gd_some h
        refine va_iast hx hb hK hP hD hS 3 0 rfl rfl g9 dX7_join_43 (fun H locs hP hD hS => ?_)
        have hP : va_P D vwCl (w_X7_join cyI cyJ cyZ cyB cyO aT aT_present aT_told aT_present_above aT_picture aT_trial aT_flow aT_shares aT_search aT_tape aT_sheets aT_usual aT_present_kind aT_present_edge aT_present_pool aT_present_store aT_present_spot vT_pictured vT_present_basins vT_present_spring vT_present_hour vT_present_z cT_told (upd cT_present_above x1.toNatClampNeg x2)) H := hP
        have hD : va_D A (w_X7_join cyI cyJ cyZ cyB cyO aT aT_present aT_told aT_present_above aT_picture aT_trial aT_flow aT_shares aT_search aT_tape aT_sheets aT_usual aT_present_kind aT_present_edge aT_present_pool aT_present_store aT_present_spot vT_pictured vT_present_basins vT_present_spring vT_present_hour vT_present_z cT_told (upd cT_present_above x1.toNatClampNeg x2)) := hD
        refine lv_iload_n hx hb dX7_join_44 rfl (lv_at hl 0 rfl) ?_
        obtain rfl := Option.some.inj h
        exact hret _ _ _ _ _ hP hD hS dX7_join_45 rfl rfl
      · have h := br_neg c6 h
        refine lv_aload_n hx hb dX7_join_17 rfl (lv_at hl 0 rfl) ?_
        refine lv_ldc (v := -1000001) hx hb hown q1 dX7_join_18 ?_
        obtain ⟨u10, hu10, h⟩ := bd_some h
        refine cl_Vi (rest := []) F hK hP hD hS hA hl (t_X7_tell l D cyI cyJ cyZ cyB cyO aT aT_told aT_present aT_picture aT_trial aT_flow aT_shares aT_search aT_tape aT_sheets aT_usual vT_pictured cT_told (-1000001 : Int32) u10 hu10) (cwV 1 hts gX7_join_X7_tell rfl rfl rfl (by decide +kernel) ⟨Nat.le_of_ble_eq_true rfl, Nat.le_of_ble_eq_true rfl⟩) 0 [0, 2] [1, 0, 2, 0] [] (w_X7_join cyI cyJ cyZ cyB cyO aT aT_present aT_told aT_present_above aT_picture aT_trial aT_flow aT_shares aT_search aT_tape aT_sheets aT_usual aT_present_kind aT_present_edge aT_present_pool aT_present_store aT_present_spot vT_pictured vT_present_basins vT_present_spring vT_present_hour vT_present_z u10.2 cT_present_above) rfl rfl rfl rfl rfl (by decide +kernel) rfl rfl (Nat.le_of_ble_eq_true rfl) ⟨Nat.zero_le _, Nat.zero_le _⟩ dX7_join_20 (fun H locs hP hD hS => ?_)
        obtain rfl := Option.some.inj h
        exact hret _ _ _ _ _ hP hD hS dX7_join_23 rfl rfl
/-! ===== X7_spring ===== -/
def w_X7_spring (cyI cyJ cyZ cyB cyO : ClassId) (aT aT_present aT_told aT_picture aT_trial aT_flow aT_shares aT_search aT_tape aT_sheets aT_usual aT_present_kind aT_present_above aT_present_edge aT_present_pool aT_present_store aT_present_spot : Nat) (vT_pictured : Int32) (vT_present_basins : Int32) (vT_present_spring : Int32) (vT_present_hour : Int32) (vT_present_z : Int32) (cT_told : Nat → Int32) : va_W := [(aT, .inr (6, [.ref aT_present, .ref aT_picture, .ref aT_trial, .ref aT_flow, .ref aT_shares, .ref aT_search, .ref aT_tape, .ref aT_sheets, .ref aT_usual, .ref aT_told, .int vT_pictured])), (aT_present, .inr (2, [.ref aT_present_kind, .ref aT_present_above, .ref aT_present_edge, .ref aT_present_pool, .ref aT_present_store, .ref aT_present_spot, .int vT_present_basins, .int vT_present_spring, .int vT_present_hour, .int vT_present_z])), (aT_told, .inl (cyI, 7, .inl cT_told))]
set_option maxHeartbeats 4000000 in
set_option maxRecDepth 100000 in
theorem t_X7_spring (l : Launch) (D : va_G) (cyI cyJ cyZ cyB cyO : ClassId) (aT aT_present aT_told aT_picture aT_trial aT_flow aT_shares aT_search aT_tape aT_sheets aT_usual aT_present_kind aT_present_above aT_present_edge aT_present_pool aT_present_store aT_present_spot : Nat) (vT_pictured : Int32) (vT_present_basins : Int32) (vT_present_spring : Int32) (vT_present_hour : Int32) (vT_present_z : Int32) (cT_told : Nat → Int32) (x1 : Int32) (out : Int32 × Int32 × (Nat → Int32)) (h : f_X7_spring x1 vT_present_spring cT_told = some out) : Mi l yX7_spring wsX7_spring ({ frames := 1, cells := 0, slots := 0, locals := 22 } : Room) D (tyA cyI cyJ cyZ cyB cyO) [.ref aT, .int x1] (w_X7_spring cyI cyJ cyZ cyB cyO aT aT_present aT_told aT_picture aT_trial aT_flow aT_shares aT_search aT_tape aT_sheets aT_usual aT_present_kind aT_present_above aT_present_edge aT_present_pool aT_present_store aT_present_spot vT_pictured vT_present_basins vT_present_spring vT_present_hour vT_present_z cT_told) (w_X7_spring cyI cyJ cyZ cyB cyO aT aT_present aT_told aT_picture aT_trial aT_flow aT_shares aT_search aT_tape aT_sheets aT_usual aT_present_kind aT_present_above aT_present_edge aT_present_pool aT_present_store aT_present_spot vT_pictured vT_present_basins out.2.1 vT_present_hour vT_present_z out.2.2) out.1 := by
  refine Mi.mk (cc := cX7_spring) (maxL := 3) (rt := .int) (own := RX7) (by decide) rfl rfl (Nat.le_of_ble_eq_true rfl) ?_
  intro p e s m args below meth c A Q F hK hP hD hA hret ls hl
  obtain ⟨hx, hb, hml, hown, hts⟩ := id F
  have hS : va_S A s.heap s.heap [] := va_S.rf
  have hl : lv_has ls 3 [(0, .ref aT), (1, .int x1)] := hl
  have in_X7 : ∀ w ∈ wsX70, w ∈ wsX7_spring := by decide +kernel
  have in_X2 : ∀ w ∈ wsX20, w ∈ wsX7_spring := by decide +kernel
  have q1 := hts (Cond.constant RX7 121 (99999)) (List.mem_of_getElem? (i := 1) rfl)
  have q5 := hts (Cond.methodLink RX7 122 yX7_within) (List.mem_of_getElem? (i := 5) rfl)
  have q3 := hts (Cond.fieldLink RX7 12 "ThirdFountain" "present" "LThirdFountain$Fountain;") (List.mem_of_getElem? (i := 3) rfl)
  have q4 := hts (Cond.fieldLink RX7 126 "ThirdFountain$Fountain" "spring" "I") (List.mem_of_getElem? (i := 4) rfl)
  have q2 := hts (Cond.constant RX7 81 (-1000001)) (List.mem_of_getElem? (i := 2) rfl)
  have q9 := hts (Cond.methodLink RX7 82 yX7_tell) (List.mem_of_getElem? (i := 9) rfl)
  unfold f_X7_spring at h
  refine lv_iload_n hx hb dX7_spring_0 rfl (lv_at hl 1 rfl) ?_
  refine lv_iconst (v := 0) hx hb dX7_spring_1 (by decide) ?_
  refine lv_ldc (v := 99999) hx hb hown q1 dX7_spring_2 ?_
  obtain ⟨u1, hu1, h⟩ := bd_some h
  refine cl_Si (rest := []) F hK hP hD hS hA hl (t_X7_within l D cyI cyJ cyZ cyB cyO x1 (0 : Int32) (99999 : Int32) u1 hu1) (va_cwS 3 hts gX7_spring_X7_within rfl rfl rfl (by decide +kernel) ⟨Nat.le_of_ble_eq_true rfl, Nat.le_of_ble_eq_true rfl⟩) [] [0, 0, 0] [] (w_X7_spring cyI cyJ cyZ cyB cyO aT aT_present aT_told aT_picture aT_trial aT_flow aT_shares aT_search aT_tape aT_sheets aT_usual aT_present_kind aT_present_above aT_present_edge aT_present_pool aT_present_store aT_present_spot vT_pictured vT_present_basins vT_present_spring vT_present_hour vT_present_z cT_told) rfl rfl rfl (by decide +kernel) rfl rfl (Nat.le_of_ble_eq_true rfl) ⟨Nat.zero_le _, Nat.zero_le _⟩ dX7_spring_4 (fun H locs hP hD hS => ?_)
  refine lv_if_ne (tgt := 17) hx hb dX7_spring_7 (by decide) (fun c2 => ?_) (fun c2 => ?_)
  · have h := br_neg c2 h
    refine lv_aload_n hx hb dX7_spring_17 rfl (lv_at hl 0 rfl) ?_
    refine va_get (D := D) (ci := 6) (v := .ref aT_present) (C := RX7) (T := TX7) (N := 11) hx hb hts in_X7 hown hK hP 0 rfl rfl 0 (by decide) q3 (fun _ h9 => h9) rfl dX7_spring_18 ?_
    refine va_get (D := D) (ci := 2) (v := .int vT_present_spring) (C := RX2) (T := TX2) (N := 10) hx hb hts in_X2 hown hK hP 1 rfl rfl 7 (by decide) q4 (fun _ h9 => h9) rfl dX7_spring_21 ?_
    refine lv_istore_n (lv' := [(2, .int vT_present_spring), (0, .ref aT), (1, .int x1)]) hx hb dX7_spring_24 rfl hl (by decide) rfl (fun ls hl => ?_)
    refine lv_aload_n hx hb dX7_spring_25 rfl (lv_at hl 1 rfl) ?_
    refine va_get (D := D) (ci := 6) (v := .ref aT_present) (C := RX7) (T := TX7) (N := 11) hx hb hts in_X7 hown hK hP 0 rfl rfl 0 (by decide) q3 (fun _ h9 => h9) rfl dX7_spring_26 ?_
    refine lv_iload_n hx hb dX7_spring_29 rfl (lv_at hl 2 rfl) ?_
    refine va_put (D := D) (ci := 2) (v := .int x1) (ty := .int) (C := RX2) (T := TX2) (N := 10) hx hb hts in_X2 tyX2 tyX2_ok nmX2 hown hK hP hD hS 1 rfl rfl 7 (by decide) q4 (fun _ h9 => h9) rfl (by decide +kernel) rfl rfl (Nat.le_of_ble_eq_true rfl) dX7_spring_30 (fun H locs hP hD hS => ?_)
    have hP : va_P D vwCl (w_X7_spring cyI cyJ cyZ cyB cyO aT aT_present aT_told aT_picture aT_trial aT_flow aT_shares aT_search aT_tape aT_sheets aT_usual aT_present_kind aT_present_above aT_present_edge aT_present_pool aT_present_store aT_present_spot vT_pictured vT_present_basins x1 vT_present_hour vT_present_z cT_told) H := hP
    have hD : va_D A (w_X7_spring cyI cyJ cyZ cyB cyO aT aT_present aT_told aT_picture aT_trial aT_flow aT_shares aT_search aT_tape aT_sheets aT_usual aT_present_kind aT_present_above aT_present_edge aT_present_pool aT_present_store aT_present_spot vT_pictured vT_present_basins x1 vT_present_hour vT_present_z cT_told) := hD
    refine lv_iload_n hx hb dX7_spring_33 rfl (lv_at hl 0 rfl) ?_
    obtain rfl := Option.some.inj h
    exact hret _ _ _ _ _ hP hD hS dX7_spring_34 rfl rfl
  · have h := br_pos c2 h
    refine lv_aload_n hx hb dX7_spring_10 rfl (lv_at hl 0 rfl) ?_
    refine lv_ldc (v := -1000001) hx hb hown q2 dX7_spring_11 ?_
    obtain ⟨u3, hu3, h⟩ := bd_some h
    refine cl_Vi (rest := []) F hK hP hD hS hA hl (t_X7_tell l D cyI cyJ cyZ cyB cyO aT aT_told aT_present aT_picture aT_trial aT_flow aT_shares aT_search aT_tape aT_sheets aT_usual vT_pictured cT_told (-1000001 : Int32) u3 hu3) (cwV 1 hts gX7_spring_X7_tell rfl rfl rfl (by decide +kernel) ⟨Nat.le_of_ble_eq_true rfl, Nat.le_of_ble_eq_true rfl⟩) 0 [0, 2] [1, 0, 2] [] (w_X7_spring cyI cyJ cyZ cyB cyO aT aT_present aT_told aT_picture aT_trial aT_flow aT_shares aT_search aT_tape aT_sheets aT_usual aT_present_kind aT_present_above aT_present_edge aT_present_pool aT_present_store aT_present_spot vT_pictured vT_present_basins vT_present_spring vT_present_hour vT_present_z u3.2) rfl rfl rfl rfl rfl (by decide +kernel) rfl rfl (Nat.le_of_ble_eq_true rfl) ⟨Nat.zero_le _, Nat.zero_le _⟩ dX7_spring_13 (fun H locs hP hD hS => ?_)
    obtain rfl := Option.some.inj h
    exact hret _ _ _ _ _ hP hD hS dX7_spring_16 rfl rfl
/-! ===== X7_under ===== -/
def w_X7_under (cyI cyJ cyZ cyB cyO : ClassId) (aT aT_present aT_told aT_present_above aT_picture aT_trial aT_flow aT_shares aT_search aT_tape aT_sheets aT_usual aT_present_kind aT_present_edge aT_present_pool aT_present_store aT_present_spot : Nat) (vT_pictured : Int32) (vT_present_basins : Int32) (vT_present_spring : Int32) (vT_present_hour : Int32) (vT_present_z : Int32) (cT_told : Nat → Int32) (cT_present_above : Nat → Int32) : va_W := [(aT, .inr (6, [.ref aT_present, .ref aT_picture, .ref aT_trial, .ref aT_flow, .ref aT_shares, .ref aT_search, .ref aT_tape, .ref aT_sheets, .ref aT_usual, .ref aT_told, .int vT_pictured])), (aT_present, .inr (2, [.ref aT_present_kind, .ref aT_present_above, .ref aT_present_edge, .ref aT_present_pool, .ref aT_present_store, .ref aT_present_spot, .int vT_present_basins, .int vT_present_spring, .int vT_present_hour, .int vT_present_z])), (aT_told, .inl (cyI, 7, .inl cT_told)), (aT_present_above, .inl (cyI, 10, .inl cT_present_above))]
set_option maxHeartbeats 4000000 in
set_option maxRecDepth 100000 in
theorem t_X7_under (l : Launch) (D : va_G) (cyI cyJ cyZ cyB cyO : ClassId) (aT aT_present aT_told aT_present_above aT_picture aT_trial aT_flow aT_shares aT_search aT_tape aT_sheets aT_usual aT_present_kind aT_present_edge aT_present_pool aT_present_store aT_present_spot : Nat) (vT_pictured : Int32) (vT_present_basins : Int32) (vT_present_spring : Int32) (vT_present_hour : Int32) (vT_present_z : Int32) (cT_told : Nat → Int32) (cT_present_above : Nat → Int32) (x1 : Int32) (x2 : Int32) (out : Int32 × (Nat → Int32)) (h : f_X7_under x1 x2 vT_present_basins cT_told cT_present_above = some out) : Mi l yX7_under wsX7_under ({ frames := 1, cells := 0, slots := 0, locals := 22 } : Room) D (tyA cyI cyJ cyZ cyB cyO) [.ref aT, .int x1, .int x2] (w_X7_under cyI cyJ cyZ cyB cyO aT aT_present aT_told aT_present_above aT_picture aT_trial aT_flow aT_shares aT_search aT_tape aT_sheets aT_usual aT_present_kind aT_present_edge aT_present_pool aT_present_store aT_present_spot vT_pictured vT_present_basins vT_present_spring vT_present_hour vT_present_z cT_told cT_present_above) (w_X7_under cyI cyJ cyZ cyB cyO aT aT_present aT_told aT_present_above aT_picture aT_trial aT_flow aT_shares aT_search aT_tape aT_sheets aT_usual aT_present_kind aT_present_edge aT_present_pool aT_present_store aT_present_spot vT_pictured vT_present_basins vT_present_spring vT_present_hour vT_present_z out.2 cT_present_above) out.1 := by
  refine Mi.mk (cc := cX7_under) (maxL := 7) (rt := .int) (own := RX7) (by decide) rfl rfl (Nat.le_of_ble_eq_true rfl) ?_
  intro p e s m args below meth c A Q F hK hP hD hA hret ls hl
  obtain ⟨hx, hb, hml, hown, hts⟩ := id F
  have hS : va_S A s.heap s.heap [] := va_S.rf
  have hl : lv_has ls 7 [(0, .ref aT), (1, .int x1), (2, .int x2)] := hl
  have in_X7 : ∀ w ∈ wsX70, w ∈ wsX7_under := by decide +kernel
  have in_X2 : ∀ w ∈ wsX20, w ∈ wsX7_under := by decide +kernel
  have q5 := hts (Cond.methodLink RX7 72 yX7_isBasin) (List.mem_of_getElem? (i := 5) rfl)
  have q1 := hts (Cond.constant RX7 81 (-1000001)) (List.mem_of_getElem? (i := 1) rfl)
  have q13 := hts (Cond.methodLink RX7 82 yX7_tell) (List.mem_of_getElem? (i := 13) rfl)
  have q10 := hts (Cond.methodLink RX7 122 yX7_within) (List.mem_of_getElem? (i := 10) rfl)
  have q2 := hts (Cond.fieldLink RX7 12 "ThirdFountain" "present" "LThirdFountain$Fountain;") (List.mem_of_getElem? (i := 2) rfl)
  have q3 := hts (Cond.fieldLink RX7 68 "ThirdFountain$Fountain" "basins" "I") (List.mem_of_getElem? (i := 3) rfl)
  have q4 := hts (Cond.fieldLink RX7 94 "ThirdFountain$Fountain" "above" "[I") (List.mem_of_getElem? (i := 4) rfl)
  unfold f_X7_under at h
  refine lv_aload_n hx hb dX7_under_0 rfl (lv_at hl 0 rfl) ?_
  refine lv_iload_n hx hb dX7_under_1 rfl (lv_at hl 1 rfl) ?_
  obtain ⟨u1, hu1, h⟩ := bd_some h
  refine cl_Vi (rest := []) F hK hP hD hS hA hl (t_X7_isBasin l D cyI cyJ cyZ cyB cyO aT aT_present aT_picture aT_trial aT_flow aT_shares aT_search aT_tape aT_sheets aT_usual aT_told aT_present_kind aT_present_above aT_present_edge aT_present_pool aT_present_store aT_present_spot vT_pictured vT_present_basins vT_present_spring vT_present_hour vT_present_z x1 u1 hu1) (cwV 1 hts gX7_under_X7_isBasin rfl rfl rfl (by decide +kernel) ⟨Nat.le_of_ble_eq_true rfl, Nat.le_of_ble_eq_true rfl⟩) 0 [0, 1] [1, 2, 0, 0] [] (w_X7_under cyI cyJ cyZ cyB cyO aT aT_present aT_told aT_present_above aT_picture aT_trial aT_flow aT_shares aT_search aT_tape aT_sheets aT_usual aT_present_kind aT_present_edge aT_present_pool aT_present_store aT_present_spot vT_pictured vT_present_basins vT_present_spring vT_present_hour vT_present_z cT_told cT_present_above) rfl rfl rfl rfl rfl (by decide +kernel) rfl rfl (Nat.le_of_ble_eq_true rfl) ⟨Nat.zero_le _, Nat.zero_le _⟩ dX7_under_2 (fun H locs hP hD hS => ?_)
  refine lv_if_eq (tgt := 17) hx hb dX7_under_5 (by decide) (fun c2 => ?_) (fun c2 => ?_)
  · have h := br_pos c2 h
    refine lv_aload_n hx hb dX7_under_17 rfl (lv_at hl 0 rfl) ?_
    refine lv_ldc (v := -1000001) hx hb hown q1 dX7_under_18 ?_
    obtain ⟨u3, hu3, h⟩ := bd_some h
    refine cl_Vi (rest := []) F hK hP hD hS hA hl (t_X7_tell l D cyI cyJ cyZ cyB cyO aT aT_told aT_present aT_picture aT_trial aT_flow aT_shares aT_search aT_tape aT_sheets aT_usual vT_pictured cT_told (-1000001 : Int32) u3 hu3) (cwV 1 hts gX7_under_X7_tell rfl rfl rfl (by decide +kernel) ⟨Nat.le_of_ble_eq_true rfl, Nat.le_of_ble_eq_true rfl⟩) 0 [0, 2] [1, 0, 2, 0] [] (w_X7_under cyI cyJ cyZ cyB cyO aT aT_present aT_told aT_present_above aT_picture aT_trial aT_flow aT_shares aT_search aT_tape aT_sheets aT_usual aT_present_kind aT_present_edge aT_present_pool aT_present_store aT_present_spot vT_pictured vT_present_basins vT_present_spring vT_present_hour vT_present_z u3.2 cT_present_above) rfl rfl rfl rfl rfl (by decide +kernel) rfl rfl (Nat.le_of_ble_eq_true rfl) ⟨Nat.zero_le _, Nat.zero_le _⟩ dX7_under_20 (fun H locs hP hD hS => ?_)
    obtain rfl := Option.some.inj h
    exact hret _ _ _ _ _ hP hD hS dX7_under_23 rfl rfl
  · have h := br_neg c2 h
    refine lv_iload_n hx hb dX7_under_8 rfl (lv_at hl 2 rfl) ?_
    refine lv_iconst (v := 0) hx hb dX7_under_9 (by decide) ?_
    refine lv_iconst (v := 1) hx hb dX7_under_10 (by decide) ?_
    obtain ⟨u4, hu4, h⟩ := bd_some h
    refine cl_Si (rest := []) F hK hP hD hS hA hl (t_X7_within l D cyI cyJ cyZ cyB cyO x2 (0 : Int32) (1 : Int32) u4 hu4) (va_cwS 3 hts gX7_under_X7_within rfl rfl rfl (by decide +kernel) ⟨Nat.le_of_ble_eq_true rfl, Nat.le_of_ble_eq_true rfl⟩) [] [0, 0, 0, 0] [] (w_X7_under cyI cyJ cyZ cyB cyO aT aT_present aT_told aT_present_above aT_picture aT_trial aT_flow aT_shares aT_search aT_tape aT_sheets aT_usual aT_present_kind aT_present_edge aT_present_pool aT_present_store aT_present_spot vT_pictured vT_present_basins vT_present_spring vT_present_hour vT_present_z cT_told cT_present_above) rfl rfl rfl (by decide +kernel) rfl rfl (Nat.le_of_ble_eq_true rfl) ⟨Nat.zero_le _, Nat.zero_le _⟩ dX7_under_11 (fun H locs hP hD hS => ?_)
    refine lv_if_ne (tgt := 24) hx hb dX7_under_14 (by decide) (fun c5 => ?_) (fun c5 => ?_)
    · have h := br_neg c5 h
      refine lv_iconst (v := 0) hx hb dX7_under_24 (by decide) ?_
      refine lv_istore_n (lv' := [(3, .int (0 : Int32)), (0, .ref aT), (1, .int x1), (2, .int x2)]) hx hb dX7_under_25 rfl hl (by decide) rfl (fun ls hl => ?_)
      refine lv_iload_n hx hb dX7_under_26 rfl (lv_at hl 2 rfl) ?_
      refine lv_iconst (v := 1) hx hb dX7_under_27 (by decide) ?_
      refine lv_iadd hx hb dX7_under_28 ?_
      refine lv_topi (fun z6 ez6 => ?_)
      have h := nm_at ez6 h
      refine lv_istore (lv' := [(4, .int z6), (3, .int (0 : Int32)), (0, .ref aT), (1, .int x1), (2, .int x2)]) hx hb dX7_under_29 hl (by decide) rfl (fun ls hl => ?_)
      have lp31 : ∀ (k31 : Nat) (y3 : Int32) (y4 : Int32) (cT_told : Nat → Int32) (H : Heap) (locs : List Loc) (ls : Array Slot), va_P D vwCl (w_X7_under cyI cyJ cyZ cyB cyO aT aT_present aT_told aT_present_above aT_picture aT_trial aT_flow aT_shares aT_search aT_tape aT_sheets aT_usual aT_present_kind aT_present_edge aT_present_pool aT_present_store aT_present_spot vT_pictured vT_present_basins vT_present_spring vT_present_hour vT_present_z cT_told cT_present_above) H → va_D A (w_X7_under cyI cyJ cyZ cyB cyO aT aT_present aT_told aT_present_above aT_picture aT_trial aT_flow aT_shares aT_search aT_tape aT_sheets aT_usual aT_present_kind aT_present_edge aT_present_pool aT_present_store aT_present_spot vT_pictured vT_present_basins vT_present_spring vT_present_hour vT_present_z cT_told cT_present_above) → va_S A s.heap H locs → lv_has ls 7 [(3, .int y3), (4, .int y4), (0, .ref aT), (1, .int x1), (2, .int x2)] → (f_X7_under_L31 x1 x2 vT_present_basins cT_present_above k31) (y3, y4, cT_told) = some out → W p l e ({ frames := 1, cells := 0, slots := 0, locals := 22 } : Room) s m args below meth c H locs 0 0 Q (F0 m 31 ls []) := by
        intro k31
        induction k31 with
        | zero => intro y3 y4 cT_told H locs ls hP hD hS hl h; cases h
        | succ k31 ih31 =>
          intro y3 y4 cT_told H locs ls hP hD hS hl h
          have h : f_X7_under_L31_b x1 x2 vT_present_basins cT_present_above (f_X7_under_L31 x1 x2 vT_present_basins cT_present_above k31) y3 y4 cT_told = some out := h
          unfold f_X7_under_L31_b at h
          refine lv_iload hx hb dX7_under_31 (lv_at hl 1 rfl) ?_
          refine lv_aload_n hx hb dX7_under_33 rfl (lv_at hl 2 rfl) ?_
          refine va_get (D := D) (ci := 6) (v := .ref aT_present) (C := RX7) (T := TX7) (N := 11) hx hb hts in_X7 hown hK hP 0 rfl rfl 0 (by decide) q2 (fun _ h9 => h9) rfl dX7_under_34 ?_
          refine va_get (D := D) (ci := 2) (v := .int vT_present_basins) (C := RX2) (T := TX2) (N := 10) hx hb hts in_X2 hown hK hP 1 rfl rfl 6 (by decide) q3 (fun _ h9 => h9) rfl dX7_under_37 ?_
          refine lv_icmp_ge (tgt := 101) hx hb dX7_under_40 (by decide) (fun c7 => ?_) (fun c7 => ?_)
          · have h := br_pos c7 h
            refine lv_iload_n hx hb dX7_under_101 rfl (lv_at hl 0 rfl) ?_
            obtain rfl := Option.some.inj h
            exact hret _ _ _ _ _ hP hD hS dX7_under_102 rfl rfl
          · have h := br_neg c7 h
            refine lv_aload_n hx hb dX7_under_43 rfl (lv_at hl 2 rfl) ?_
            refine va_get (D := D) (ci := 6) (v := .ref aT_present) (C := RX7) (T := TX7) (N := 11) hx hb hts in_X7 hown hK hP 0 rfl rfl 0 (by decide) q2 (fun _ h9 => h9) rfl dX7_under_44 ?_
            refine va_get (D := D) (ci := 2) (v := .ref aT_present_above) (C := RX2) (T := TX2) (N := 10) hx hb hts in_X2 hown hK hP 1 rfl rfl 1 (by decide) q4 (fun _ h9 => h9) rfl dX7_under_47 ?_
            refine lv_iload hx hb dX7_under_50 (lv_at hl 1 rfl) ?_
            obtain ⟨g8, h⟩ := gd_some h
            refine va_iald hx hb hK hP 3 0 rfl rfl g8 dX7_under_52 ?_
            refine lv_topi (fun z9 ez9 => ?_)
            have h := nm_at ez9 h
            refine lv_istore (lv' := [(5, .int z9), (3, .int y3), (4, .int y4), (0, .ref aT), (1, .int x1), (2, .int x2)]) hx hb dX7_under_53 hl (by decide) rfl (fun ls hl => ?_)
            refine lv_iload_n hx hb dX7_under_55 rfl (lv_at hl 5 rfl) ?_
            refine lv_iconst (v := 1) hx hb dX7_under_56 (by decide) ?_
            have j75 : ∀ (y3 : Int32) (y4 : Int32) (y5 : Int32) (t0 : Int32) (cT_told : Nat → Int32) (H : Heap) (locs : List Loc) (ls : Array Slot), va_P D vwCl (w_X7_under cyI cyJ cyZ cyB cyO aT aT_present aT_told aT_present_above aT_picture aT_trial aT_flow aT_shares aT_search aT_tape aT_sheets aT_usual aT_present_kind aT_present_edge aT_present_pool aT_present_store aT_present_spot vT_pictured vT_present_basins vT_present_spring vT_present_hour vT_present_z cT_told cT_present_above) H → va_D A (w_X7_under cyI cyJ cyZ cyB cyO aT aT_present aT_told aT_present_above aT_picture aT_trial aT_flow aT_shares aT_search aT_tape aT_sheets aT_usual aT_present_kind aT_present_edge aT_present_pool aT_present_store aT_present_spot vT_pictured vT_present_basins vT_present_spring vT_present_hour vT_present_z cT_told cT_present_above) → va_S A s.heap H locs → lv_has ls 7 [(3, .int y3), (4, .int y4), (5, .int y5), (0, .ref aT), (1, .int x1), (2, .int x2)] → f_X7_under_J75 x1 x2 vT_present_basins cT_present_above (f_X7_under_L31 x1 x2 vT_present_basins cT_present_above k31) y3 y4 y5 t0 cT_told = some out → W p l e ({ frames := 1, cells := 0, slots := 0, locals := 22 } : Room) s m args below meth c H locs 0 0 Q (F0 m 75 ls [.int t0]) := by
              intro y3 y4 y5 t0 cT_told H locs ls hP hD hS hl h
              unfold f_X7_under_J75 at h
              refine lv_istore (lv' := [(6, .int t0), (3, .int y3), (4, .int y4), (5, .int y5), (0, .ref aT), (1, .int x1), (2, .int x2)]) hx hb dX7_under_75 hl (by decide) rfl (fun ls hl => ?_)
              refine lv_iload hx hb dX7_under_77 (lv_at hl 3 rfl) ?_
              refine lv_iload_n hx hb dX7_under_79 rfl (lv_at hl 5 rfl) ?_
              refine lv_icmp_eq (tgt := 88) hx hb dX7_under_80 (by decide) (fun c10 => ?_) (fun c10 => ?_)
              · have h := br_pos c10 h
                refine lv_iload_n hx hb dX7_under_88 rfl (lv_at hl 1 rfl) ?_
                refine lv_iconst (v := 1) hx hb dX7_under_89 (by decide) ?_
                refine lv_iload hx hb dX7_under_90 (lv_at hl 2 rfl) ?_
                refine lv_ishl hx hb dX7_under_92 ?_
                refine lv_ior hx hb dX7_under_93 ?_
                refine lv_topi (fun z11 ez11 => ?_)
                have h := nm_at ez11 h
                refine lv_istore_n (lv' := [(3, .int z11), (6, .int t0), (4, .int y4), (5, .int y5), (0, .ref aT), (1, .int x1), (2, .int x2)]) hx hb dX7_under_94 rfl hl (by decide) rfl (fun ls hl => ?_)
                refine lv_iinc (v := y4 + 1) (lv' := [(4, .int (y4 + 1)), (3, .int z11), (6, .int t0), (5, .int y5), (0, .ref aT), (1, .int x1), (2, .int x2)]) hx hb dX7_under_95 hl (k := 2) rfl rfl (by decide) rfl (fun ls hl => ?_)
                refine lv_goto (tgt := 31) hx hb dX7_under_98 (by decide) ?_
                exact ih31 z11 (y4 + 1) cT_told _ _ _ hP hD hS (lv_sub hl [1, 0, 4, 5, 6] rfl) h
              · have h := br_neg c10 h
                refine lv_iload hx hb dX7_under_83 (lv_at hl 0 rfl) ?_
                refine lv_if_eq (tgt := 95) hx hb dX7_under_85 (by decide) (fun c12 => ?_) (fun c12 => ?_)
                · have h := br_pos c12 h
                  refine lv_iinc (v := y4 + 1) (lv' := [(4, .int (y4 + 1)), (6, .int t0), (3, .int y3), (5, .int y5), (0, .ref aT), (1, .int x1), (2, .int x2)]) hx hb dX7_under_95 hl (k := 2) rfl rfl (by decide) rfl (fun ls hl => ?_)
                  refine lv_goto (tgt := 31) hx hb dX7_under_98 (by decide) ?_
                  exact ih31 y3 (y4 + 1) cT_told _ _ _ hP hD hS (lv_sub hl [2, 0, 4, 5, 6] rfl) h
                · have h := br_neg c12 h
                  refine lv_iload_n hx hb dX7_under_88 rfl (lv_at hl 1 rfl) ?_
                  refine lv_iconst (v := 1) hx hb dX7_under_89 (by decide) ?_
                  refine lv_iload hx hb dX7_under_90 (lv_at hl 2 rfl) ?_
                  refine lv_ishl hx hb dX7_under_92 ?_
                  refine lv_ior hx hb dX7_under_93 ?_
                  refine lv_topi (fun z13 ez13 => ?_)
                  have h := nm_at ez13 h
                  refine lv_istore_n (lv' := [(3, .int z13), (6, .int t0), (4, .int y4), (5, .int y5), (0, .ref aT), (1, .int x1), (2, .int x2)]) hx hb dX7_under_94 rfl hl (by decide) rfl (fun ls hl => ?_)
                  refine lv_iinc (v := y4 + 1) (lv' := [(4, .int (y4 + 1)), (3, .int z13), (6, .int t0), (5, .int y5), (0, .ref aT), (1, .int x1), (2, .int x2)]) hx hb dX7_under_95 hl (k := 2) rfl rfl (by decide) rfl (fun ls hl => ?_)
                  refine lv_goto (tgt := 31) hx hb dX7_under_98 (by decide) ?_
                  exact ih31 z13 (y4 + 1) cT_told _ _ _ hP hD hS (lv_sub hl [1, 0, 4, 5, 6] rfl) h
            refine lv_icmp_ne (tgt := 74) hx hb dX7_under_57 (by decide) (fun c14 => ?_) (fun c14 => ?_)
            · have h := br_neg c14 h
              refine lv_iconst (v := 0) hx hb dX7_under_74 (by decide) ?_
              exact j75 y3 y4 z9 (0 : Int32) cT_told _ _ _ hP hD hS (lv_sub hl [1, 2, 0, 3, 4, 5] rfl) h
            · have h := br_pos c14 h
              refine lv_iload_n hx hb dX7_under_60 rfl (lv_at hl 1 rfl) ?_
              refine lv_iload hx hb dX7_under_61 (lv_at hl 0 rfl) ?_
              refine lv_ishr hx hb dX7_under_63 ?_
              refine lv_iconst (v := 1) hx hb dX7_under_64 (by decide) ?_
              refine lv_iand hx hb dX7_under_65 ?_
              refine lv_iconst (v := 1) hx hb dX7_under_66 (by decide) ?_
              refine lv_icmp_ne (tgt := 74) hx hb dX7_under_67 (by decide) (fun c15 => ?_) (fun c15 => ?_)
              · have h := br_neg c15 h
                refine lv_iconst (v := 0) hx hb dX7_under_74 (by decide) ?_
                exact j75 y3 y4 z9 (0 : Int32) cT_told _ _ _ hP hD hS (lv_sub hl [1, 2, 0, 3, 4, 5] rfl) h
              · have h := br_pos c15 h
                refine lv_iconst (v := 1) hx hb dX7_under_70 (by decide) ?_
                refine lv_goto (tgt := 75) hx hb dX7_under_71 (by decide) ?_
                exact j75 y3 y4 z9 (1 : Int32) cT_told _ _ _ hP hD hS (lv_sub hl [1, 2, 0, 3, 4, 5] rfl) h
      exact lp31 FU (0 : Int32) z6 cT_told _ _ _ hP hD hS (lv_sub hl [1, 0, 2, 3, 4] rfl) h
    · have h := br_pos c5 h
      refine lv_aload_n hx hb dX7_under_17 rfl (lv_at hl 0 rfl) ?_
      refine lv_ldc (v := -1000001) hx hb hown q1 dX7_under_18 ?_
      obtain ⟨u16, hu16, h⟩ := bd_some h
      refine cl_Vi (rest := []) F hK hP hD hS hA hl (t_X7_tell l D cyI cyJ cyZ cyB cyO aT aT_told aT_present aT_picture aT_trial aT_flow aT_shares aT_search aT_tape aT_sheets aT_usual vT_pictured cT_told (-1000001 : Int32) u16 hu16) (cwV 1 hts gX7_under_X7_tell rfl rfl rfl (by decide +kernel) ⟨Nat.le_of_ble_eq_true rfl, Nat.le_of_ble_eq_true rfl⟩) 0 [0, 2] [1, 0, 2, 0] [] (w_X7_under cyI cyJ cyZ cyB cyO aT aT_present aT_told aT_present_above aT_picture aT_trial aT_flow aT_shares aT_search aT_tape aT_sheets aT_usual aT_present_kind aT_present_edge aT_present_pool aT_present_store aT_present_spot vT_pictured vT_present_basins vT_present_spring vT_present_hour vT_present_z u16.2 cT_present_above) rfl rfl rfl rfl rfl (by decide +kernel) rfl rfl (Nat.le_of_ble_eq_true rfl) ⟨Nat.zero_le _, Nat.zero_le _⟩ dX7_under_20 (fun H locs hP hD hS => ?_)
      obtain rfl := Option.some.inj h
      exact hret _ _ _ _ _ hP hD hS dX7_under_23 rfl rfl
/-! ===== X7_share ===== -/
def w_X7_share (cyI cyJ cyZ cyB cyO : ClassId) (aT aT_present aT_told aT_shares aT_present_above aT_shares_onTop aT_shares_onBottom aT_shares_onFits aT_present_edge aT_present_kind aT_shares_keptTop aT_shares_keptBottom aT_shares_keptFits aT_picture aT_trial aT_flow aT_search aT_tape aT_sheets aT_usual aT_present_pool aT_present_store aT_present_spot : Nat) (vT_pictured : Int32) (vT_present_basins : Int32) (vT_present_spring : Int32) (vT_present_hour : Int32) (vT_present_z : Int32) (cT_told : Nat → Int32) (vT_shares_top : Int64) (vT_shares_bottom : Int64) (cT_present_above : Nat → Int32) (cT_shares_onTop : Nat → Int64) (cT_shares_onBottom : Nat → Int64) (cT_shares_onFits : Nat → Int32) (cT_present_edge : Nat → Int32) (cT_present_kind : Nat → Int32) (cT_shares_keptTop : Nat → Int64) (cT_shares_keptBottom : Nat → Int64) (cT_shares_keptFits : Nat → Int32) : va_W := [(aT, .inr (6, [.ref aT_present, .ref aT_picture, .ref aT_trial, .ref aT_flow, .ref aT_shares, .ref aT_search, .ref aT_tape, .ref aT_sheets, .ref aT_usual, .ref aT_told, .int vT_pictured])), (aT_present, .inr (2, [.ref aT_present_kind, .ref aT_present_above, .ref aT_present_edge, .ref aT_present_pool, .ref aT_present_store, .ref aT_present_spot, .int vT_present_basins, .int vT_present_spring, .int vT_present_hour, .int vT_present_z])), (aT_told, .inl (cyI, 7, .inl cT_told)), (aT_shares, .inr (3, [.ref aT_shares_keptTop, .ref aT_shares_keptBottom, .ref aT_shares_keptFits, .ref aT_shares_onTop, .ref aT_shares_onBottom, .ref aT_shares_onFits, .long vT_shares_top, .long vT_shares_bottom])), (aT_present_above, .inl (cyI, 10, .inl cT_present_above)), (aT_shares_onTop, .inl (cyJ, 10, .inr (.inl cT_shares_onTop))), (aT_shares_onBottom, .inl (cyJ, 10, .inr (.inl cT_shares_onBottom))), (aT_shares_onFits, .inl (cyZ, 10, .inl cT_shares_onFits)), (aT_present_edge, .inl (cyI, 10, .inl cT_present_edge)), (aT_present_kind, .inl (cyI, 10, .inl cT_present_kind)), (aT_shares_keptTop, .inl (cyJ, 10, .inr (.inl cT_shares_keptTop))), (aT_shares_keptBottom, .inl (cyJ, 10, .inr (.inl cT_shares_keptBottom))), (aT_shares_keptFits, .inl (cyZ, 10, .inl cT_shares_keptFits))]
set_option maxHeartbeats 4000000 in
set_option maxRecDepth 100000 in
theorem t_X7_share (l : Launch) (D : va_G) (cyI cyJ cyZ cyB cyO : ClassId) (aT aT_present aT_told aT_shares aT_present_above aT_shares_onTop aT_shares_onBottom aT_shares_onFits aT_present_edge aT_present_kind aT_shares_keptTop aT_shares_keptBottom aT_shares_keptFits aT_picture aT_trial aT_flow aT_search aT_tape aT_sheets aT_usual aT_present_pool aT_present_store aT_present_spot : Nat) (vT_pictured : Int32) (vT_present_basins : Int32) (vT_present_spring : Int32) (vT_present_hour : Int32) (vT_present_z : Int32) (cT_told : Nat → Int32) (vT_shares_top : Int64) (vT_shares_bottom : Int64) (cT_present_above : Nat → Int32) (cT_shares_onTop : Nat → Int64) (cT_shares_onBottom : Nat → Int64) (cT_shares_onFits : Nat → Int32) (cT_present_edge : Nat → Int32) (cT_present_kind : Nat → Int32) (cT_shares_keptTop : Nat → Int64) (cT_shares_keptBottom : Nat → Int64) (cT_shares_keptFits : Nat → Int32) (x1 : Int32) (x2 : Int32) (out : Int64 × (Nat → Int32) × Int64 × Int64 × (Nat → Int64) × (Nat → Int64) × (Nat → Int32) × (Nat → Int64) × (Nat → Int64) × (Nat → Int32)) (h : f_X7_share x1 x2 vT_present_basins cT_told vT_shares_top vT_shares_bottom cT_present_above cT_shares_onTop cT_shares_onBottom cT_shares_onFits cT_present_edge cT_present_kind cT_shares_keptTop cT_shares_keptBottom cT_shares_keptFits = some out) : Ml l yX7_share wsX7_share ({ frames := 4, cells := 0, slots := 0, locals := 104 } : Room) D (tyA cyI cyJ cyZ cyB cyO) [.ref aT, .int x1, .int x2] (w_X7_share cyI cyJ cyZ cyB cyO aT aT_present aT_told aT_shares aT_present_above aT_shares_onTop aT_shares_onBottom aT_shares_onFits aT_present_edge aT_present_kind aT_shares_keptTop aT_shares_keptBottom aT_shares_keptFits aT_picture aT_trial aT_flow aT_search aT_tape aT_sheets aT_usual aT_present_pool aT_present_store aT_present_spot vT_pictured vT_present_basins vT_present_spring vT_present_hour vT_present_z cT_told vT_shares_top vT_shares_bottom cT_present_above cT_shares_onTop cT_shares_onBottom cT_shares_onFits cT_present_edge cT_present_kind cT_shares_keptTop cT_shares_keptBottom cT_shares_keptFits) (w_X7_share cyI cyJ cyZ cyB cyO aT aT_present aT_told aT_shares aT_present_above aT_shares_onTop aT_shares_onBottom aT_shares_onFits aT_present_edge aT_present_kind aT_shares_keptTop aT_shares_keptBottom aT_shares_keptFits aT_picture aT_trial aT_flow aT_search aT_tape aT_sheets aT_usual aT_present_pool aT_present_store aT_present_spot vT_pictured vT_present_basins vT_present_spring vT_present_hour vT_present_z out.2.1 out.2.2.1 out.2.2.2.1 cT_present_above out.2.2.2.2.1 out.2.2.2.2.2.1 out.2.2.2.2.2.2.1 cT_present_edge cT_present_kind out.2.2.2.2.2.2.2.1 out.2.2.2.2.2.2.2.2.1 out.2.2.2.2.2.2.2.2.2) out.1 := by
  refine Ml.mk (cc := cX7_share) (maxL := 3) (own := RX7) (by decide) rfl rfl (Nat.le_of_ble_eq_true rfl) ?_
  intro p e s m args below meth c A Q F hK hP hD hA hret ls hl
  obtain ⟨hx, hb, hml, hown, hts⟩ := id F
  have hS : va_S A s.heap s.heap [] := va_S.rf
  have hl : lv_has ls 3 [(0, .ref aT), (1, .int x1), (2, .int x2)] := hl
  have in_X7 : ∀ w ∈ wsX70, w ∈ wsX7_share := by decide +kernel
  have in_X4 : ∀ w ∈ wsX40, w ∈ wsX7_share := by decide +kernel
  have q8 := hts (Cond.methodLink RX7 72 yX7_isBasin) (List.mem_of_getElem? (i := 8) rfl)
  have q1 := hts (Cond.constant RX7 81 (-1000001)) (List.mem_of_getElem? (i := 1) rfl)
  have q17 := hts (Cond.methodLink RX7 82 yX7_tell) (List.mem_of_getElem? (i := 17) rfl)
  have q14 := hts (Cond.methodLink RX7 122 yX7_within) (List.mem_of_getElem? (i := 14) rfl)
  have q2 := hts (Cond.fieldLink RX7 32 "ThirdFountain" "shares" "LThirdFountain$Shares;") (List.mem_of_getElem? (i := 2) rfl)
  have q3 := hts (Cond.fieldLink RX7 12 "ThirdFountain" "present" "LThirdFountain$Fountain;") (List.mem_of_getElem? (i := 3) rfl)
  have q22 := hts (Cond.methodLink RX7 132 yX4_reckon) (List.mem_of_getElem? (i := 22) rfl)
  have q4 := hts (Cond.fieldLink RX7 133 "ThirdFountain$Shares" "keptFits" "[Z") (List.mem_of_getElem? (i := 4) rfl)
  have q7 := hts (Cond.fieldLink RX7 142 "ThirdFountain$Shares" "keptBottom" "[J") (List.mem_of_getElem? (i := 7) rfl)
  have q6 := hts (Cond.fieldLink RX7 138 "ThirdFountain$Shares" "keptTop" "[J") (List.mem_of_getElem? (i := 6) rfl)
  have q5 := hts (Cond.constant RX7 137 (-1000007)) (List.mem_of_getElem? (i := 5) rfl)
  unfold f_X7_share at h
  refine lv_aload_n hx hb dX7_share_0 rfl (lv_at hl 0 rfl) ?_
  refine lv_iload_n hx hb dX7_share_1 rfl (lv_at hl 1 rfl) ?_
  obtain ⟨u1, hu1, h⟩ := bd_some h
  refine cl_Vi (rest := []) F hK hP hD hS hA hl (t_X7_isBasin l D cyI cyJ cyZ cyB cyO aT aT_present aT_picture aT_trial aT_flow aT_shares aT_search aT_tape aT_sheets aT_usual aT_told aT_present_kind aT_present_above aT_present_edge aT_present_pool aT_present_store aT_present_spot vT_pictured vT_present_basins vT_present_spring vT_present_hour vT_present_z x1 u1 hu1) (cwV 1 hts gX7_share_X7_isBasin rfl rfl rfl (by decide +kernel) ⟨Nat.le_of_ble_eq_true rfl, Nat.le_of_ble_eq_true rfl⟩) 0 [0, 1] [1, 2, 0, 0, 0, 0, 0, 0, 0, 0, 0, 0, 0] [] (w_X7_share cyI cyJ cyZ cyB cyO aT aT_present aT_told aT_shares aT_present_above aT_shares_onTop aT_shares_onBottom aT_shares_onFits aT_present_edge aT_present_kind aT_shares_keptTop aT_shares_keptBottom aT_shares_keptFits aT_picture aT_trial aT_flow aT_search aT_tape aT_sheets aT_usual aT_present_pool aT_present_store aT_present_spot vT_pictured vT_present_basins vT_present_spring vT_present_hour vT_present_z cT_told vT_shares_top vT_shares_bottom cT_present_above cT_shares_onTop cT_shares_onBottom cT_shares_onFits cT_present_edge cT_present_kind cT_shares_keptTop cT_shares_keptBottom cT_shares_keptFits) rfl rfl rfl rfl rfl (by decide +kernel) rfl rfl (Nat.le_of_ble_eq_true rfl) ⟨Nat.zero_le _, Nat.zero_le _⟩ dX7_share_2 (fun H locs hP hD hS => ?_)
  refine lv_if_eq (tgt := 17) hx hb dX7_share_5 (by decide) (fun c2 => ?_) (fun c2 => ?_)
  · have h := br_pos c2 h
    refine lv_aload_n hx hb dX7_share_17 rfl (lv_at hl 0 rfl) ?_
    refine lv_ldc (v := -1000001) hx hb hown q1 dX7_share_18 ?_
    obtain ⟨u3, hu3, h⟩ := bd_some h
    refine cl_Vi (rest := []) F hK hP hD hS hA hl (t_X7_tell l D cyI cyJ cyZ cyB cyO aT aT_told aT_present aT_picture aT_trial aT_flow aT_shares aT_search aT_tape aT_sheets aT_usual vT_pictured cT_told (-1000001 : Int32) u3 hu3) (cwV 1 hts gX7_share_X7_tell rfl rfl rfl (by decide +kernel) ⟨Nat.le_of_ble_eq_true rfl, Nat.le_of_ble_eq_true rfl⟩) 0 [0, 2] [1, 0, 2, 0, 0, 0, 0, 0, 0, 0, 0, 0, 0] [] (w_X7_share cyI cyJ cyZ cyB cyO aT aT_present aT_told aT_shares aT_present_above aT_shares_onTop aT_shares_onBottom aT_shares_onFits aT_present_edge aT_present_kind aT_shares_keptTop aT_shares_keptBottom aT_shares_keptFits aT_picture aT_trial aT_flow aT_search aT_tape aT_sheets aT_usual aT_present_pool aT_present_store aT_present_spot vT_pictured vT_present_basins vT_present_spring vT_present_hour vT_present_z u3.2 vT_shares_top vT_shares_bottom cT_present_above cT_shares_onTop cT_shares_onBottom cT_shares_onFits cT_present_edge cT_present_kind cT_shares_keptTop cT_shares_keptBottom cT_shares_keptFits) rfl rfl rfl rfl rfl (by decide +kernel) rfl rfl (Nat.le_of_ble_eq_true rfl) ⟨Nat.zero_le _, Nat.zero_le _⟩ dX7_share_20 (fun H locs hP hD hS => ?_)
    refine lv_i2l hx hb dX7_share_23 rfl ?_
    obtain rfl := Option.some.inj h
    exact hret _ _ _ _ _ hP hD hS dX7_share_24 rfl
  · have h := br_neg c2 h
    refine lv_iload_n hx hb dX7_share_8 rfl (lv_at hl 2 rfl) ?_
    refine lv_iconst (v := 0) hx hb dX7_share_9 (by decide) ?_
    refine lv_iconst (v := 1) hx hb dX7_share_10 (by decide) ?_
    obtain ⟨u4, hu4, h⟩ := bd_some h
    refine cl_Si (rest := []) F hK hP hD hS hA hl (t_X7_within l D cyI cyJ cyZ cyB cyO x2 (0 : Int32) (1 : Int32) u4 hu4) (va_cwS 3 hts gX7_share_X7_within rfl rfl rfl (by decide +kernel) ⟨Nat.le_of_ble_eq_true rfl, Nat.le_of_ble_eq_true rfl⟩) [] [0, 0, 0, 0, 0, 0, 0, 0, 0, 0, 0, 0, 0] [] (w_X7_share cyI cyJ cyZ cyB cyO aT aT_present aT_told aT_shares aT_present_above aT_shares_onTop aT_shares_onBottom aT_shares_onFits aT_present_edge aT_present_kind aT_shares_keptTop aT_shares_keptBottom aT_shares_keptFits aT_picture aT_trial aT_flow aT_search aT_tape aT_sheets aT_usual aT_present_pool aT_present_store aT_present_spot vT_pictured vT_present_basins vT_present_spring vT_present_hour vT_present_z cT_told vT_shares_top vT_shares_bottom cT_present_above cT_shares_onTop cT_shares_onBottom cT_shares_onFits cT_present_edge cT_present_kind cT_shares_keptTop cT_shares_keptBottom cT_shares_keptFits) rfl rfl rfl (by decide +kernel) rfl rfl (Nat.le_of_ble_eq_true rfl) ⟨Nat.zero_le _, Nat.zero_le _⟩ dX7_share_11 (fun H locs hP hD hS => ?_)
    refine lv_if_ne (tgt := 25) hx hb dX7_share_14 (by decide) (fun c5 => ?_) (fun c5 => ?_)
    · have h := br_neg c5 h
      refine lv_aload_n hx hb dX7_share_25 rfl (lv_at hl 0 rfl) ?_
      refine va_get (D := D) (ci := 6) (v := .ref aT_shares) (C := RX7) (T := TX7) (N := 11) hx hb hts in_X7 hown hK hP 0 rfl rfl 4 (by decide) q2 (fun _ h9 => h9) rfl dX7_share_26 ?_
      refine lv_aload_n hx hb dX7_share_29 rfl (lv_at hl 0 rfl) ?_
      refine va_get (D := D) (ci := 6) (v := .ref aT_present) (C := RX7) (T := TX7) (N := 11) hx hb hts in_X7 hown hK hP 0 rfl rfl 0 (by decide) q3 (fun _ h9 => h9) rfl dX7_share_30 ?_
      obtain ⟨u6, hu6, h⟩ := bd_some h
      refine cl_Vv (rest := []) F hK hP hD hS hA hl (t_X4_reckon l D cyI cyJ cyZ cyB cyO aT_present aT_shares aT_present_above aT_shares_onTop aT_shares_onBottom aT_shares_onFits aT_present_edge aT_present_kind aT_shares_keptTop aT_shares_keptBottom aT_shares_keptFits aT_present_pool aT_present_store aT_present_spot vT_present_basins vT_present_spring vT_present_hour vT_present_z vT_shares_top vT_shares_bottom cT_present_above cT_shares_onTop cT_shares_onBottom cT_shares_onFits cT_present_edge cT_present_kind cT_shares_keptTop cT_shares_keptBottom cT_shares_keptFits u6 hu6) (cwV 1 hts gX7_share_X4_reckon rfl rfl rfl (by decide +kernel) ⟨Nat.le_of_ble_eq_true rfl, Nat.le_of_ble_eq_true rfl⟩) 3 [1, 3, 4, 5, 6, 7, 8, 9, 10, 11, 12] [0, 1, 0, 2, 3, 4, 5, 6, 7, 8, 9, 10, 11] [] (w_X7_share cyI cyJ cyZ cyB cyO aT aT_present aT_told aT_shares aT_present_above aT_shares_onTop aT_shares_onBottom aT_shares_onFits aT_present_edge aT_present_kind aT_shares_keptTop aT_shares_keptBottom aT_shares_keptFits aT_picture aT_trial aT_flow aT_search aT_tape aT_sheets aT_usual aT_present_pool aT_present_store aT_present_spot vT_pictured vT_present_basins vT_present_spring vT_present_hour vT_present_z cT_told u6.1 u6.2.1 cT_present_above u6.2.2.1 u6.2.2.2.1 u6.2.2.2.2.1 cT_present_edge cT_present_kind u6.2.2.2.2.2.1 u6.2.2.2.2.2.2.1 u6.2.2.2.2.2.2.2) rfl rfl rfl rfl rfl (by decide +kernel) rfl rfl (Nat.le_of_ble_eq_true rfl) ⟨Nat.zero_le _, Nat.zero_le _⟩ dX7_share_33 (fun H locs hP hD hS => ?_)
      refine lv_aload_n hx hb dX7_share_36 rfl (lv_at hl 0 rfl) ?_
      refine va_get (D := D) (ci := 6) (v := .ref aT_shares) (C := RX7) (T := TX7) (N := 11) hx hb hts in_X7 hown hK hP 0 rfl rfl 4 (by decide) q2 (fun _ h9 => h9) rfl dX7_share_37 ?_
      refine va_get (D := D) (ci := 3) (v := .ref aT_shares_keptFits) (C := RX4) (T := TX4) (N := 8) hx hb hts in_X4 hown hK hP 3 rfl rfl 2 (by decide) q4 (fun _ h9 => h9) rfl dX7_share_40 ?_
      refine lv_iload_n hx hb dX7_share_43 rfl (lv_at hl 1 rfl) ?_
      obtain ⟨g7, h⟩ := gd_some h
      refine va_zald hx hb hK hP 12 2 rfl rfl g7 dX7_share_44 ?_
      refine lv_if_ne (tgt := 56) hx hb dX7_share_45 (by decide) (fun c8 => ?_) (fun c8 => ?_)
      · have h := br_neg c8 h
        refine lv_iload_n hx hb dX7_share_56 rfl (lv_at hl 2 rfl) ?_
        refine lv_if_ne (tgt := 72) hx hb dX7_share_57 (by decide) (fun c9 => ?_) (fun c9 => ?_)
        · have h := br_neg c9 h
          refine lv_aload_n hx hb dX7_share_72 rfl (lv_at hl 0 rfl) ?_
          refine va_get (D := D) (ci := 6) (v := .ref aT_shares) (C := RX7) (T := TX7) (N := 11) hx hb hts in_X7 hown hK hP 0 rfl rfl 4 (by decide) q2 (fun _ h9 => h9) rfl dX7_share_73 ?_
          refine va_get (D := D) (ci := 3) (v := .ref aT_shares_keptBottom) (C := RX4) (T := TX4) (N := 8) hx hb hts in_X4 hown hK hP 3 rfl rfl 1 (by decide) q7 (fun _ h9 => h9) rfl dX7_share_76 ?_
          refine lv_iload_n hx hb dX7_share_79 rfl (lv_at hl 1 rfl) ?_
          obtain ⟨g10, h⟩ := gd_some h
          refine va_lald hx hb hK hP 11 1 rfl rfl g10 dX7_share_80 ?_
          obtain rfl := Option.some.inj h
          exact hret _ _ _ _ _ hP hD hS dX7_share_81 rfl
        · have h := br_pos c9 h
          refine lv_aload_n hx hb dX7_share_60 rfl (lv_at hl 0 rfl) ?_
          refine va_get (D := D) (ci := 6) (v := .ref aT_shares) (C := RX7) (T := TX7) (N := 11) hx hb hts in_X7 hown hK hP 0 rfl rfl 4 (by decide) q2 (fun _ h9 => h9) rfl dX7_share_61 ?_
          refine va_get (D := D) (ci := 3) (v := .ref aT_shares_keptTop) (C := RX4) (T := TX4) (N := 8) hx hb hts in_X4 hown hK hP 3 rfl rfl 0 (by decide) q6 (fun _ h9 => h9) rfl dX7_share_64 ?_
          refine lv_iload_n hx hb dX7_share_67 rfl (lv_at hl 1 rfl) ?_
          obtain ⟨g11, h⟩ := gd_some h
          refine va_lald hx hb hK hP 10 1 rfl rfl g11 dX7_share_68 ?_
          refine lv_goto (tgt := 81) hx hb dX7_share_69 (by decide) ?_
          obtain rfl := Option.some.inj h
          exact hret _ _ _ _ _ hP hD hS dX7_share_81 rfl
      · have h := br_pos c8 h
        refine lv_aload_n hx hb dX7_share_48 rfl (lv_at hl 0 rfl) ?_
        refine lv_ldc (v := -1000007) hx hb hown q5 dX7_share_49 ?_
        obtain ⟨u12, hu12, h⟩ := bd_some h
        refine cl_Vi (rest := []) F hK hP hD hS hA hl (t_X7_tell l D cyI cyJ cyZ cyB cyO aT aT_told aT_present aT_picture aT_trial aT_flow aT_shares aT_search aT_tape aT_sheets aT_usual vT_pictured cT_told (-1000007 : Int32) u12 hu12) (cwV 1 hts gX7_share_X7_tell rfl rfl rfl (by decide +kernel) ⟨Nat.le_of_ble_eq_true rfl, Nat.le_of_ble_eq_true rfl⟩) 0 [0, 2] [1, 0, 2, 0, 0, 0, 0, 0, 0, 0, 0, 0, 0] [] (w_X7_share cyI cyJ cyZ cyB cyO aT aT_present aT_told aT_shares aT_present_above aT_shares_onTop aT_shares_onBottom aT_shares_onFits aT_present_edge aT_present_kind aT_shares_keptTop aT_shares_keptBottom aT_shares_keptFits aT_picture aT_trial aT_flow aT_search aT_tape aT_sheets aT_usual aT_present_pool aT_present_store aT_present_spot vT_pictured vT_present_basins vT_present_spring vT_present_hour vT_present_z u12.2 u6.1 u6.2.1 cT_present_above u6.2.2.1 u6.2.2.2.1 u6.2.2.2.2.1 cT_present_edge cT_present_kind u6.2.2.2.2.2.1 u6.2.2.2.2.2.2.1 u6.2.2.2.2.2.2.2) rfl rfl rfl rfl rfl (by decide +kernel) rfl rfl (Nat.le_of_ble_eq_true rfl) ⟨Nat.zero_le _, Nat.zero_le _⟩ dX7_share_51 (fun H locs hP hD hS => ?_)
        refine lv_i2l hx hb dX7_share_54 rfl ?_
        obtain rfl := Option.some.inj h
        exact hret _ _ _ _ _ hP hD hS dX7_share_55 rfl
    · have h := br_pos c5 h
      refine lv_aload_n hx hb dX7_share_17 rfl (lv_at hl 0 rfl) ?_
      refine lv_ldc (v := -1000001) hx hb hown q1 dX7_share_18 ?_
      obtain ⟨u13, hu13, h⟩ := bd_some h
      refine cl_Vi (rest := []) F hK hP hD hS hA hl (t_X7_tell l D cyI cyJ cyZ cyB cyO aT aT_told aT_present aT_picture aT_trial aT_flow aT_shares aT_search aT_tape aT_sheets aT_usual vT_pictured cT_told (-1000001 : Int32) u13 hu13) (cwV 1 hts gX7_share_X7_tell rfl rfl rfl (by decide +kernel) ⟨Nat.le_of_ble_eq_true rfl, Nat.le_of_ble_eq_true rfl⟩) 0 [0, 2] [1, 0, 2, 0, 0, 0, 0, 0, 0, 0, 0, 0, 0] [] (w_X7_share cyI cyJ cyZ cyB cyO aT aT_present aT_told aT_shares aT_present_above aT_shares_onTop aT_shares_onBottom aT_shares_onFits aT_present_edge aT_present_kind aT_shares_keptTop aT_shares_keptBottom aT_shares_keptFits aT_picture aT_trial aT_flow aT_search aT_tape aT_sheets aT_usual aT_present_pool aT_present_store aT_present_spot vT_pictured vT_present_basins vT_present_spring vT_present_hour vT_present_z u13.2 vT_shares_top vT_shares_bottom cT_present_above cT_shares_onTop cT_shares_onBottom cT_shares_onFits cT_present_edge cT_present_kind cT_shares_keptTop cT_shares_keptBottom cT_shares_keptFits) rfl rfl rfl rfl rfl (by decide +kernel) rfl rfl (Nat.le_of_ble_eq_true rfl) ⟨Nat.zero_le _, Nat.zero_le _⟩ dX7_share_20 (fun H locs hP hD hS => ?_)
      refine lv_i2l hx hb dX7_share_23 rfl ?_
      obtain rfl := Option.some.inj h
      exact hret _ _ _ _ _ hP hD hS dX7_share_24 rfl
/-! ===== X7_rest ===== -/
def w_X7_rest (cyI cyJ cyZ cyB cyO : ClassId) (aT aT_present aT_told aT_present_above aT_present_edge aT_shares aT_shares_onTop aT_shares_onBottom aT_shares_onFits aT_present_kind aT_shares_keptTop aT_shares_keptBottom aT_shares_keptFits aT_picture aT_trial aT_flow aT_search aT_tape aT_sheets aT_usual aT_present_pool aT_present_store aT_present_spot : Nat) (vT_pictured : Int32) (vT_present_basins : Int32) (vT_present_spring : Int32) (vT_present_hour : Int32) (vT_present_z : Int32) (cT_told : Nat → Int32) (cT_present_above : Nat → Int32) (cT_present_edge : Nat → Int32) (vT_shares_top : Int64) (vT_shares_bottom : Int64) (cT_shares_onTop : Nat → Int64) (cT_shares_onBottom : Nat → Int64) (cT_shares_onFits : Nat → Int32) (cT_present_kind : Nat → Int32) (cT_shares_keptTop : Nat → Int64) (cT_shares_keptBottom : Nat → Int64) (cT_shares_keptFits : Nat → Int32) : va_W := [(aT, .inr (6, [.ref aT_present, .ref aT_picture, .ref aT_trial, .ref aT_flow, .ref aT_shares, .ref aT_search, .ref aT_tape, .ref aT_sheets, .ref aT_usual, .ref aT_told, .int vT_pictured])), (aT_present, .inr (2, [.ref aT_present_kind, .ref aT_present_above, .ref aT_present_edge, .ref aT_present_pool, .ref aT_present_store, .ref aT_present_spot, .int vT_present_basins, .int vT_present_spring, .int vT_present_hour, .int vT_present_z])), (aT_told, .inl (cyI, 7, .inl cT_told)), (aT_present_above, .inl (cyI, 10, .inl cT_present_above)), (aT_present_edge, .inl (cyI, 10, .inl cT_present_edge)), (aT_shares, .inr (3, [.ref aT_shares_keptTop, .ref aT_shares_keptBottom, .ref aT_shares_keptFits, .ref aT_shares_onTop, .ref aT_shares_onBottom, .ref aT_shares_onFits, .long vT_shares_top, .long vT_shares_bottom])), (aT_shares_onTop, .inl (cyJ, 10, .inr (.inl cT_shares_onTop))), (aT_shares_onBottom, .inl (cyJ, 10, .inr (.inl cT_shares_onBottom))), (aT_shares_onFits, .inl (cyZ, 10, .inl cT_shares_onFits)), (aT_present_kind, .inl (cyI, 10, .inl cT_present_kind)), (aT_shares_keptTop, .inl (cyJ, 10, .inr (.inl cT_shares_keptTop))), (aT_shares_keptBottom, .inl (cyJ, 10, .inr (.inl cT_shares_keptBottom))), (aT_shares_keptFits, .inl (cyZ, 10, .inl cT_shares_keptFits))]
set_option maxHeartbeats 4000000 in
set_option maxRecDepth 100000 in
theorem t_X7_rest (l : Launch) (D : va_G) (cyI cyJ cyZ cyB cyO : ClassId) (aT aT_present aT_told aT_present_above aT_present_edge aT_shares aT_shares_onTop aT_shares_onBottom aT_shares_onFits aT_present_kind aT_shares_keptTop aT_shares_keptBottom aT_shares_keptFits aT_picture aT_trial aT_flow aT_search aT_tape aT_sheets aT_usual aT_present_pool aT_present_store aT_present_spot : Nat) (vT_pictured : Int32) (vT_present_basins : Int32) (vT_present_spring : Int32) (vT_present_hour : Int32) (vT_present_z : Int32) (cT_told : Nat → Int32) (cT_present_above : Nat → Int32) (cT_present_edge : Nat → Int32) (vT_shares_top : Int64) (vT_shares_bottom : Int64) (cT_shares_onTop : Nat → Int64) (cT_shares_onBottom : Nat → Int64) (cT_shares_onFits : Nat → Int32) (cT_present_kind : Nat → Int32) (cT_shares_keptTop : Nat → Int64) (cT_shares_keptBottom : Nat → Int64) (cT_shares_keptFits : Nat → Int32) (x1 : Int32) (x2 : Int32) (out : Int64 × (Nat → Int32) × Int64 × Int64 × (Nat → Int64) × (Nat → Int64) × (Nat → Int32) × (Nat → Int64) × (Nat → Int64) × (Nat → Int32)) (h : f_X7_rest x1 x2 vT_present_basins cT_told cT_present_above cT_present_edge vT_shares_top vT_shares_bottom cT_shares_onTop cT_shares_onBottom cT_shares_onFits cT_present_kind cT_shares_keptTop cT_shares_keptBottom cT_shares_keptFits = some out) : Ml l yX7_rest wsX7_rest ({ frames := 4, cells := 0, slots := 0, locals := 104 } : Room) D (tyA cyI cyJ cyZ cyB cyO) [.ref aT, .int x1, .int x2] (w_X7_rest cyI cyJ cyZ cyB cyO aT aT_present aT_told aT_present_above aT_present_edge aT_shares aT_shares_onTop aT_shares_onBottom aT_shares_onFits aT_present_kind aT_shares_keptTop aT_shares_keptBottom aT_shares_keptFits aT_picture aT_trial aT_flow aT_search aT_tape aT_sheets aT_usual aT_present_pool aT_present_store aT_present_spot vT_pictured vT_present_basins vT_present_spring vT_present_hour vT_present_z cT_told cT_present_above cT_present_edge vT_shares_top vT_shares_bottom cT_shares_onTop cT_shares_onBottom cT_shares_onFits cT_present_kind cT_shares_keptTop cT_shares_keptBottom cT_shares_keptFits) (w_X7_rest cyI cyJ cyZ cyB cyO aT aT_present aT_told aT_present_above aT_present_edge aT_shares aT_shares_onTop aT_shares_onBottom aT_shares_onFits aT_present_kind aT_shares_keptTop aT_shares_keptBottom aT_shares_keptFits aT_picture aT_trial aT_flow aT_search aT_tape aT_sheets aT_usual aT_present_pool aT_present_store aT_present_spot vT_pictured vT_present_basins vT_present_spring vT_present_hour vT_present_z out.2.1 cT_present_above cT_present_edge out.2.2.1 out.2.2.2.1 out.2.2.2.2.1 out.2.2.2.2.2.1 out.2.2.2.2.2.2.1 cT_present_kind out.2.2.2.2.2.2.2.1 out.2.2.2.2.2.2.2.2.1 out.2.2.2.2.2.2.2.2.2) out.1 := by
  refine Ml.mk (cc := cX7_rest) (maxL := 3) (own := RX7) (by decide) rfl rfl (Nat.le_of_ble_eq_true rfl) ?_
  intro p e s m args below meth c A Q F hK hP hD hA hret ls hl
  obtain ⟨hx, hb, hml, hown, hts⟩ := id F
  have hS : va_S A s.heap s.heap [] := va_S.rf
  have hl : lv_has ls 3 [(0, .ref aT), (1, .int x1), (2, .int x2)] := hl
  have in_X7 : ∀ w ∈ wsX70, w ∈ wsX7_rest := by decide +kernel
  have in_X4 : ∀ w ∈ wsX40, w ∈ wsX7_rest := by decide +kernel
  have q8 := hts (Cond.methodLink RX7 72 yX7_isBasin) (List.mem_of_getElem? (i := 8) rfl)
  have q1 := hts (Cond.constant RX7 81 (-1000001)) (List.mem_of_getElem? (i := 1) rfl)
  have q17 := hts (Cond.methodLink RX7 82 yX7_tell) (List.mem_of_getElem? (i := 17) rfl)
  have q14 := hts (Cond.methodLink RX7 122 yX7_within) (List.mem_of_getElem? (i := 14) rfl)
  have q2 := hts (Cond.fieldLink RX7 12 "ThirdFountain" "present" "LThirdFountain$Fountain;") (List.mem_of_getElem? (i := 2) rfl)
  have q22 := hts (Cond.methodLink RX7 145 yX2_widthUnder) (List.mem_of_getElem? (i := 22) rfl)
  have q3 := hts (Cond.fieldLink RX7 32 "ThirdFountain" "shares" "LThirdFountain$Shares;") (List.mem_of_getElem? (i := 3) rfl)
  have q30 := hts (Cond.methodLink RX7 132 yX4_reckon) (List.mem_of_getElem? (i := 30) rfl)
  have q4 := hts (Cond.fieldLink RX7 148 "ThirdFountain$Shares" "onFits" "[Z") (List.mem_of_getElem? (i := 4) rfl)
  have q7 := hts (Cond.fieldLink RX7 154 "ThirdFountain$Shares" "onBottom" "[J") (List.mem_of_getElem? (i := 7) rfl)
  have q6 := hts (Cond.fieldLink RX7 151 "ThirdFountain$Shares" "onTop" "[J") (List.mem_of_getElem? (i := 6) rfl)
  have q5 := hts (Cond.constant RX7 137 (-1000007)) (List.mem_of_getElem? (i := 5) rfl)
  unfold f_X7_rest at h
  refine lv_aload_n hx hb dX7_rest_0 rfl (lv_at hl 0 rfl) ?_
  refine lv_iload_n hx hb dX7_rest_1 rfl (lv_at hl 1 rfl) ?_
  obtain ⟨u1, hu1, h⟩ := bd_some h
  refine cl_Vi (rest := []) F hK hP hD hS hA hl (t_X7_isBasin l D cyI cyJ cyZ cyB cyO aT aT_present aT_picture aT_trial aT_flow aT_shares aT_search aT_tape aT_sheets aT_usual aT_told aT_present_kind aT_present_above aT_present_edge aT_present_pool aT_present_store aT_present_spot vT_pictured vT_present_basins vT_present_spring vT_present_hour vT_present_z x1 u1 hu1) (cwV 1 hts gX7_rest_X7_isBasin rfl rfl rfl (by decide +kernel) ⟨Nat.le_of_ble_eq_true rfl, Nat.le_of_ble_eq_true rfl⟩) 0 [0, 1] [1, 2, 0, 0, 0, 0, 0, 0, 0, 0, 0, 0, 0] [] (w_X7_rest cyI cyJ cyZ cyB cyO aT aT_present aT_told aT_present_above aT_present_edge aT_shares aT_shares_onTop aT_shares_onBottom aT_shares_onFits aT_present_kind aT_shares_keptTop aT_shares_keptBottom aT_shares_keptFits aT_picture aT_trial aT_flow aT_search aT_tape aT_sheets aT_usual aT_present_pool aT_present_store aT_present_spot vT_pictured vT_present_basins vT_present_spring vT_present_hour vT_present_z cT_told cT_present_above cT_present_edge vT_shares_top vT_shares_bottom cT_shares_onTop cT_shares_onBottom cT_shares_onFits cT_present_kind cT_shares_keptTop cT_shares_keptBottom cT_shares_keptFits) rfl rfl rfl rfl rfl (by decide +kernel) rfl rfl (Nat.le_of_ble_eq_true rfl) ⟨Nat.zero_le _, Nat.zero_le _⟩ dX7_rest_2 (fun H locs hP hD hS => ?_)
  refine lv_if_eq (tgt := 17) hx hb dX7_rest_5 (by decide) (fun c2 => ?_) (fun c2 => ?_)
  · have h := br_pos c2 h
    refine lv_aload_n hx hb dX7_rest_17 rfl (lv_at hl 0 rfl) ?_
    refine lv_ldc (v := -1000001) hx hb hown q1 dX7_rest_18 ?_
    obtain ⟨u3, hu3, h⟩ := bd_some h
    refine cl_Vi (rest := []) F hK hP hD hS hA hl (t_X7_tell l D cyI cyJ cyZ cyB cyO aT aT_told aT_present aT_picture aT_trial aT_flow aT_shares aT_search aT_tape aT_sheets aT_usual vT_pictured cT_told (-1000001 : Int32) u3 hu3) (cwV 1 hts gX7_rest_X7_tell rfl rfl rfl (by decide +kernel) ⟨Nat.le_of_ble_eq_true rfl, Nat.le_of_ble_eq_true rfl⟩) 0 [0, 2] [1, 0, 2, 0, 0, 0, 0, 0, 0, 0, 0, 0, 0] [] (w_X7_rest cyI cyJ cyZ cyB cyO aT aT_present aT_told aT_present_above aT_present_edge aT_shares aT_shares_onTop aT_shares_onBottom aT_shares_onFits aT_present_kind aT_shares_keptTop aT_shares_keptBottom aT_shares_keptFits aT_picture aT_trial aT_flow aT_search aT_tape aT_sheets aT_usual aT_present_pool aT_present_store aT_present_spot vT_pictured vT_present_basins vT_present_spring vT_present_hour vT_present_z u3.2 cT_present_above cT_present_edge vT_shares_top vT_shares_bottom cT_shares_onTop cT_shares_onBottom cT_shares_onFits cT_present_kind cT_shares_keptTop cT_shares_keptBottom cT_shares_keptFits) rfl rfl rfl rfl rfl (by decide +kernel) rfl rfl (Nat.le_of_ble_eq_true rfl) ⟨Nat.zero_le _, Nat.zero_le _⟩ dX7_rest_20 (fun H locs hP hD hS => ?_)
    refine lv_i2l hx hb dX7_rest_23 rfl ?_
    obtain rfl := Option.some.inj h
    exact hret _ _ _ _ _ hP hD hS dX7_rest_24 rfl
  · have h := br_neg c2 h
    refine lv_iload_n hx hb dX7_rest_8 rfl (lv_at hl 2 rfl) ?_
    refine lv_iconst (v := 0) hx hb dX7_rest_9 (by decide) ?_
    refine lv_iconst (v := 1) hx hb dX7_rest_10 (by decide) ?_
    obtain ⟨u4, hu4, h⟩ := bd_some h
    refine cl_Si (rest := []) F hK hP hD hS hA hl (t_X7_within l D cyI cyJ cyZ cyB cyO x2 (0 : Int32) (1 : Int32) u4 hu4) (va_cwS 3 hts gX7_rest_X7_within rfl rfl rfl (by decide +kernel) ⟨Nat.le_of_ble_eq_true rfl, Nat.le_of_ble_eq_true rfl⟩) [] [0, 0, 0, 0, 0, 0, 0, 0, 0, 0, 0, 0, 0] [] (w_X7_rest cyI cyJ cyZ cyB cyO aT aT_present aT_told aT_present_above aT_present_edge aT_shares aT_shares_onTop aT_shares_onBottom aT_shares_onFits aT_present_kind aT_shares_keptTop aT_shares_keptBottom aT_shares_keptFits aT_picture aT_trial aT_flow aT_search aT_tape aT_sheets aT_usual aT_present_pool aT_present_store aT_present_spot vT_pictured vT_present_basins vT_present_spring vT_present_hour vT_present_z cT_told cT_present_above cT_present_edge vT_shares_top vT_shares_bottom cT_shares_onTop cT_shares_onBottom cT_shares_onFits cT_present_kind cT_shares_keptTop cT_shares_keptBottom cT_shares_keptFits) rfl rfl rfl (by decide +kernel) rfl rfl (Nat.le_of_ble_eq_true rfl) ⟨Nat.zero_le _, Nat.zero_le _⟩ dX7_rest_11 (fun H locs hP hD hS => ?_)
    refine lv_if_ne (tgt := 25) hx hb dX7_rest_14 (by decide) (fun c5 => ?_) (fun c5 => ?_)
    · have h := br_neg c5 h
      refine lv_aload_n hx hb dX7_rest_25 rfl (lv_at hl 0 rfl) ?_
      refine va_get (D := D) (ci := 6) (v := .ref aT_present) (C := RX7) (T := TX7) (N := 11) hx hb hts in_X7 hown hK hP 0 rfl rfl 0 (by decide) q2 (fun _ h9 => h9) rfl dX7_rest_26 ?_
      refine lv_iload_n hx hb dX7_rest_29 rfl (lv_at hl 1 rfl) ?_
      obtain ⟨u6, hu6, h⟩ := bd_some h
      refine cl_Vi (rest := []) F hK hP hD hS hA hl (t_X2_widthUnder l D cyI cyJ cyZ cyB cyO aT_present aT_present_above aT_present_edge aT_present_kind aT_present_pool aT_present_store aT_present_spot vT_present_basins vT_present_spring vT_present_hour vT_present_z cT_present_above cT_present_edge x1 u6 hu6) (cwV 1 hts gX7_rest_X2_widthUnder rfl rfl rfl (by decide +kernel) ⟨Nat.le_of_ble_eq_true rfl, Nat.le_of_ble_eq_true rfl⟩) 1 [1, 3, 4] [0, 1, 0, 2, 3, 0, 0, 0, 0, 0, 0, 0, 0] [] (w_X7_rest cyI cyJ cyZ cyB cyO aT aT_present aT_told aT_present_above aT_present_edge aT_shares aT_shares_onTop aT_shares_onBottom aT_shares_onFits aT_present_kind aT_shares_keptTop aT_shares_keptBottom aT_shares_keptFits aT_picture aT_trial aT_flow aT_search aT_tape aT_sheets aT_usual aT_present_pool aT_present_store aT_present_spot vT_pictured vT_present_basins vT_present_spring vT_present_hour vT_present_z cT_told cT_present_above cT_present_edge vT_shares_top vT_shares_bottom cT_shares_onTop cT_shares_onBottom cT_shares_onFits cT_present_kind cT_shares_keptTop cT_shares_keptBottom cT_shares_keptFits) rfl rfl rfl rfl rfl (by decide +kernel) rfl rfl (Nat.le_of_ble_eq_true rfl) ⟨Nat.zero_le _, Nat.zero_le _⟩ dX7_rest_30 (fun H locs hP hD hS => ?_)
      refine lv_if_le (tgt := 39) hx hb dX7_rest_33 (by decide) (fun c7 => ?_) (fun c7 => ?_)
      · have h := br_pos c7 h
        refine lv_aload_n hx hb dX7_rest_39 rfl (lv_at hl 0 rfl) ?_
        refine va_get (D := D) (ci := 6) (v := .ref aT_shares) (C := RX7) (T := TX7) (N := 11) hx hb hts in_X7 hown hK hP 0 rfl rfl 4 (by decide) q3 (fun _ h9 => h9) rfl dX7_rest_40 ?_
        refine lv_aload_n hx hb dX7_rest_43 rfl (lv_at hl 0 rfl) ?_
        refine va_get (D := D) (ci := 6) (v := .ref aT_present) (C := RX7) (T := TX7) (N := 11) hx hb hts in_X7 hown hK hP 0 rfl rfl 0 (by decide) q2 (fun _ h9 => h9) rfl dX7_rest_44 ?_
        obtain ⟨u8, hu8, h⟩ := bd_some h
        refine cl_Vv (rest := []) F hK hP hD hS hA hl (t_X4_reckon l D cyI cyJ cyZ cyB cyO aT_present aT_shares aT_present_above aT_shares_onTop aT_shares_onBottom aT_shares_onFits aT_present_edge aT_present_kind aT_shares_keptTop aT_shares_keptBottom aT_shares_keptFits aT_present_pool aT_present_store aT_present_spot vT_present_basins vT_present_spring vT_present_hour vT_present_z vT_shares_top vT_shares_bottom cT_present_above cT_shares_onTop cT_shares_onBottom cT_shares_onFits cT_present_edge cT_present_kind cT_shares_keptTop cT_shares_keptBottom cT_shares_keptFits u8 hu8) (cwV 1 hts gX7_rest_X4_reckon rfl rfl rfl (by decide +kernel) ⟨Nat.le_of_ble_eq_true rfl, Nat.le_of_ble_eq_true rfl⟩) 5 [1, 5, 3, 6, 7, 8, 4, 9, 10, 11, 12] [0, 1, 0, 3, 7, 2, 4, 5, 6, 8, 9, 10, 11] [] (w_X7_rest cyI cyJ cyZ cyB cyO aT aT_present aT_told aT_present_above aT_present_edge aT_shares aT_shares_onTop aT_shares_onBottom aT_shares_onFits aT_present_kind aT_shares_keptTop aT_shares_keptBottom aT_shares_keptFits aT_picture aT_trial aT_flow aT_search aT_tape aT_sheets aT_usual aT_present_pool aT_present_store aT_present_spot vT_pictured vT_present_basins vT_present_spring vT_present_hour vT_present_z cT_told cT_present_above cT_present_edge u8.1 u8.2.1 u8.2.2.1 u8.2.2.2.1 u8.2.2.2.2.1 cT_present_kind u8.2.2.2.2.2.1 u8.2.2.2.2.2.2.1 u8.2.2.2.2.2.2.2) rfl rfl rfl rfl rfl (by decide +kernel) rfl rfl (Nat.le_of_ble_eq_true rfl) ⟨Nat.zero_le _, Nat.zero_le _⟩ dX7_rest_47 (fun H locs hP hD hS => ?_)
        refine lv_aload_n hx hb dX7_rest_50 rfl (lv_at hl 0 rfl) ?_
        refine va_get (D := D) (ci := 6) (v := .ref aT_shares) (C := RX7) (T := TX7) (N := 11) hx hb hts in_X7 hown hK hP 0 rfl rfl 4 (by decide) q3 (fun _ h9 => h9) rfl dX7_rest_51 ?_
        refine va_get (D := D) (ci := 3) (v := .ref aT_shares_onFits) (C := RX4) (T := TX4) (N := 8) hx hb hts in_X4 hown hK hP 5 rfl rfl 5 (by decide) q4 (fun _ h9 => h9) rfl dX7_rest_54 ?_
        refine lv_iload_n hx hb dX7_rest_57 rfl (lv_at hl 1 rfl) ?_
        obtain ⟨g9, h⟩ := gd_some h
        refine va_zald hx hb hK hP 8 2 rfl rfl g9 dX7_rest_58 ?_
        refine lv_if_ne (tgt := 70) hx hb dX7_rest_59 (by decide) (fun c10 => ?_) (fun c10 => ?_)
        · have h := br_neg c10 h
          refine lv_iload_n hx hb dX7_rest_70 rfl (lv_at hl 2 rfl) ?_
          refine lv_if_ne (tgt := 86) hx hb dX7_rest_71 (by decide) (fun c11 => ?_) (fun c11 => ?_)
          · have h := br_neg c11 h
            refine lv_aload_n hx hb dX7_rest_86 rfl (lv_at hl 0 rfl) ?_
            refine va_get (D := D) (ci := 6) (v := .ref aT_shares) (C := RX7) (T := TX7) (N := 11) hx hb hts in_X7 hown hK hP 0 rfl rfl 4 (by decide) q3 (fun _ h9 => h9) rfl dX7_rest_87 ?_
            refine va_get (D := D) (ci := 3) (v := .ref aT_shares_onBottom) (C := RX4) (T := TX4) (N := 8) hx hb hts in_X4 hown hK hP 5 rfl rfl 4 (by decide) q7 (fun _ h9 => h9) rfl dX7_rest_90 ?_
            refine lv_iload_n hx hb dX7_rest_93 rfl (lv_at hl 1 rfl) ?_
            obtain ⟨g12, h⟩ := gd_some h
            refine va_lald hx hb hK hP 7 1 rfl rfl g12 dX7_rest_94 ?_
            obtain rfl := Option.some.inj h
            exact hret _ _ _ _ _ hP hD hS dX7_rest_95 rfl
          · have h := br_pos c11 h
            refine lv_aload_n hx hb dX7_rest_74 rfl (lv_at hl 0 rfl) ?_
            refine va_get (D := D) (ci := 6) (v := .ref aT_shares) (C := RX7) (T := TX7) (N := 11) hx hb hts in_X7 hown hK hP 0 rfl rfl 4 (by decide) q3 (fun _ h9 => h9) rfl dX7_rest_75 ?_
            refine va_get (D := D) (ci := 3) (v := .ref aT_shares_onTop) (C := RX4) (T := TX4) (N := 8) hx hb hts in_X4 hown hK hP 5 rfl rfl 3 (by decide) q6 (fun _ h9 => h9) rfl dX7_rest_78 ?_
            refine lv_iload_n hx hb dX7_rest_81 rfl (lv_at hl 1 rfl) ?_
            obtain ⟨g13, h⟩ := gd_some h
            refine va_lald hx hb hK hP 6 1 rfl rfl g13 dX7_rest_82 ?_
            refine lv_goto (tgt := 95) hx hb dX7_rest_83 (by decide) ?_
            obtain rfl := Option.some.inj h
            exact hret _ _ _ _ _ hP hD hS dX7_rest_95 rfl
        · have h := br_pos c10 h
          refine lv_aload_n hx hb dX7_rest_62 rfl (lv_at hl 0 rfl) ?_
          refine lv_ldc (v := -1000007) hx hb hown q5 dX7_rest_63 ?_
          obtain ⟨u14, hu14, h⟩ := bd_some h
          refine cl_Vi (rest := []) F hK hP hD hS hA hl (t_X7_tell l D cyI cyJ cyZ cyB cyO aT aT_told aT_present aT_picture aT_trial aT_flow aT_shares aT_search aT_tape aT_sheets aT_usual vT_pictured cT_told (-1000007 : Int32) u14 hu14) (cwV 1 hts gX7_rest_X7_tell rfl rfl rfl (by decide +kernel) ⟨Nat.le_of_ble_eq_true rfl, Nat.le_of_ble_eq_true rfl⟩) 0 [0, 2] [1, 0, 2, 0, 0, 0, 0, 0, 0, 0, 0, 0, 0] [] (w_X7_rest cyI cyJ cyZ cyB cyO aT aT_present aT_told aT_present_above aT_present_edge aT_shares aT_shares_onTop aT_shares_onBottom aT_shares_onFits aT_present_kind aT_shares_keptTop aT_shares_keptBottom aT_shares_keptFits aT_picture aT_trial aT_flow aT_search aT_tape aT_sheets aT_usual aT_present_pool aT_present_store aT_present_spot vT_pictured vT_present_basins vT_present_spring vT_present_hour vT_present_z u14.2 cT_present_above cT_present_edge u8.1 u8.2.1 u8.2.2.1 u8.2.2.2.1 u8.2.2.2.2.1 cT_present_kind u8.2.2.2.2.2.1 u8.2.2.2.2.2.2.1 u8.2.2.2.2.2.2.2) rfl rfl rfl rfl rfl (by decide +kernel) rfl rfl (Nat.le_of_ble_eq_true rfl) ⟨Nat.zero_le _, Nat.zero_le _⟩ dX7_rest_65 (fun H locs hP hD hS => ?_)
          refine lv_i2l hx hb dX7_rest_68 rfl ?_
          obtain rfl := Option.some.inj h
          exact hret _ _ _ _ _ hP hD hS dX7_rest_69 rfl
      · have h := br_neg c7 h
        refine lv_iload_n hx hb dX7_rest_36 rfl (lv_at hl 2 rfl) ?_
        refine lv_i2l hx hb dX7_rest_37 rfl ?_
        obtain rfl := Option.some.inj h
        exact hret _ _ _ _ _ hP hD hS dX7_rest_38 rfl
    · have h := br_pos c5 h
      refine lv_aload_n hx hb dX7_rest_17 rfl (lv_at hl 0 rfl) ?_
      refine lv_ldc (v := -1000001) hx hb hown q1 dX7_rest_18 ?_
      obtain ⟨u15, hu15, h⟩ := bd_some h
      refine cl_Vi (rest := []) F hK hP hD hS hA hl (t_X7_tell l D cyI cyJ cyZ cyB cyO aT aT_told aT_present aT_picture aT_trial aT_flow aT_shares aT_search aT_tape aT_sheets aT_usual vT_pictured cT_told (-1000001 : Int32) u15 hu15) (cwV 1 hts gX7_rest_X7_tell rfl rfl rfl (by decide +kernel) ⟨Nat.le_of_ble_eq_true rfl, Nat.le_of_ble_eq_true rfl⟩) 0 [0, 2] [1, 0, 2, 0, 0, 0, 0, 0, 0, 0, 0, 0, 0] [] (w_X7_rest cyI cyJ cyZ cyB cyO aT aT_present aT_told aT_present_above aT_present_edge aT_shares aT_shares_onTop aT_shares_onBottom aT_shares_onFits aT_present_kind aT_shares_keptTop aT_shares_keptBottom aT_shares_keptFits aT_picture aT_trial aT_flow aT_search aT_tape aT_sheets aT_usual aT_present_pool aT_present_store aT_present_spot vT_pictured vT_present_basins vT_present_spring vT_present_hour vT_present_z u15.2 cT_present_above cT_present_edge vT_shares_top vT_shares_bottom cT_shares_onTop cT_shares_onBottom cT_shares_onFits cT_present_kind cT_shares_keptTop cT_shares_keptBottom cT_shares_keptFits) rfl rfl rfl rfl rfl (by decide +kernel) rfl rfl (Nat.le_of_ble_eq_true rfl) ⟨Nat.zero_le _, Nat.zero_le _⟩ dX7_rest_20 (fun H locs hP hD hS => ?_)
      refine lv_i2l hx hb dX7_rest_23 rfl ?_
      obtain rfl := Option.some.inj h
      exact hret _ _ _ _ _ hP hD hS dX7_rest_24 rfl
/-! ===== X7_tooLate ===== -/
def w_X7_tooLate (cyI cyJ cyZ cyB cyO : ClassId) (aT aT_present aT_picture aT_trial aT_flow aT_shares aT_search aT_tape aT_sheets aT_usual aT_told aT_present_kind aT_present_above aT_present_edge aT_present_pool aT_present_store aT_present_spot : Nat) (vT_pictured : Int32) (vT_present_basins : Int32) (vT_present_spring : Int32) (vT_present_hour : Int32) (vT_present_z : Int32) : va_W := [(aT, .inr (6, [.ref aT_present, .ref aT_picture, .ref aT_trial, .ref aT_flow, .ref aT_shares, .ref aT_search, .ref aT_tape, .ref aT_sheets, .ref aT_usual, .ref aT_told, .int vT_pictured])), (aT_present, .inr (2, [.ref aT_present_kind, .ref aT_present_above, .ref aT_present_edge, .ref aT_present_pool, .ref aT_present_store, .ref aT_present_spot, .int vT_present_basins, .int vT_present_spring, .int vT_present_hour, .int vT_present_z]))]
set_option maxHeartbeats 4000000 in
set_option maxRecDepth 100000 in
theorem t_X7_tooLate (l : Launch) (D : va_G) (cyI cyJ cyZ cyB cyO : ClassId) (aT aT_present aT_picture aT_trial aT_flow aT_shares aT_search aT_tape aT_sheets aT_usual aT_told aT_present_kind aT_present_above aT_present_edge aT_present_pool aT_present_store aT_present_spot : Nat) (vT_pictured : Int32) (vT_present_basins : Int32) (vT_present_spring : Int32) (vT_present_hour : Int32) (vT_present_z : Int32) (x1 : Int32) (out : Int32) (h : f_X7_tooLate x1 vT_present_hour = some out) : Mi l yX7_tooLate wsX7_tooLate ({ frames := 0, cells := 0, slots := 0, locals := 0 } : Room) D (tyA cyI cyJ cyZ cyB cyO) [.ref aT, .int x1] (w_X7_tooLate cyI cyJ cyZ cyB cyO aT aT_present aT_picture aT_trial aT_flow aT_shares aT_search aT_tape aT_sheets aT_usual aT_told aT_present_kind aT_present_above aT_present_edge aT_present_pool aT_present_store aT_present_spot vT_pictured vT_present_basins vT_present_spring vT_present_hour vT_present_z) (w_X7_tooLate cyI cyJ cyZ cyB cyO aT aT_present aT_picture aT_trial aT_flow aT_shares aT_search aT_tape aT_sheets aT_usual aT_told aT_present_kind aT_present_above aT_present_edge aT_present_pool aT_present_store aT_present_spot vT_pictured vT_present_basins vT_present_spring vT_present_hour vT_present_z) out := by
  refine Mi.mk (cc := cX7_tooLate) (maxL := 2) (rt := .boolean) (own := RX7) (by decide) rfl rfl (Nat.le_of_ble_eq_true rfl) ?_
  intro p e s m args below meth c A Q F hK hP hD hA hret ls hl
  obtain ⟨hx, hb, hml, hown, hts⟩ := id F
  have hS : va_S A s.heap s.heap [] := va_S.rf
  have hl : lv_has ls 2 [(0, .ref aT), (1, .int x1)] := hl
  have in_X7 : ∀ w ∈ wsX70, w ∈ wsX7_tooLate := by decide +kernel
  have in_X2 : ∀ w ∈ wsX20, w ∈ wsX7_tooLate := by decide +kernel
  have q1 := hts (Cond.fieldLink RX7 12 "ThirdFountain" "present" "LThirdFountain$Fountain;") (List.mem_of_getElem? (i := 1) rfl)
  have q2 := hts (Cond.fieldLink RX7 185 "ThirdFountain$Fountain" "hour" "I") (List.mem_of_getElem? (i := 2) rfl)
  unfold f_X7_tooLate at h
  refine lv_aload_n hx hb dX7_tooLate_0 rfl (lv_at hl 0 rfl) ?_
  refine va_get (D := D) (ci := 6) (v := .ref aT_present) (C := RX7) (T := TX7) (N := 11) hx hb hts in_X7 hown hK hP 0 rfl rfl 0 (by decide) q1 (fun _ h9 => h9) rfl dX7_tooLate_1 ?_
  refine va_get (D := D) (ci := 2) (v := .int vT_present_hour) (C := RX2) (T := TX2) (N := 10) hx hb hts in_X2 hown hK hP 1 rfl rfl 8 (by decide) q2 (fun _ h9 => h9) rfl dX7_tooLate_4 ?_
  refine lv_iload_n hx hb dX7_tooLate_7 rfl (lv_at hl 1 rfl) ?_
  refine lv_iadd hx hb dX7_tooLate_8 ?_
  refine lv_sipush (v := 9999) hx hb dX7_tooLate_9 (by decide) ?_
  refine lv_icmp_le (tgt := 19) hx hb dX7_tooLate_12 (by decide) (fun c1 => ?_) (fun c1 => ?_)
  · have h := br_pos c1 h
    refine lv_iconst (v := 0) hx hb dX7_tooLate_19 (by decide) ?_
    obtain rfl := Option.some.inj h
    exact hret _ _ _ _ _ hP hD hS dX7_tooLate_20 (nz_of (Or.inl rfl)) rfl
  · have h := br_neg c1 h
    refine lv_iconst (v := 1) hx hb dX7_tooLate_15 (by decide) ?_
    refine lv_goto (tgt := 20) hx hb dX7_tooLate_16 (by decide) ?_
    obtain rfl := Option.some.inj h
    exact hret _ _ _ _ _ hP hD hS dX7_tooLate_20 (nz_of (Or.inr rfl)) rfl
/-! ===== X7_hours ===== -/
def w_X7_hours (cyI cyJ cyZ cyB cyO : ClassId) (aT aT_present aT_flow aT_flow_width aT_present_above aT_present_edge aT_flow_goesOn aT_flow_comes aT_present_kind aT_flow_keeps aT_present_pool aT_flow_holds aT_present_store aT_told aT_picture aT_trial aT_shares aT_search aT_tape aT_sheets aT_usual aT_present_spot : Nat) (vT_pictured : Int32) (vT_present_basins : Int32) (vT_present_spring : Int32) (vT_present_hour : Int32) (vT_present_z : Int32) (vT_flow_kept : Int32) (vT_flow_leaked : Int32) (vT_flow_ranOff : Int32) (vT_flow_uneven : Int32) (vT_flow_keptInAll : Int32) (vT_flow_leakedInAll : Int32) (vT_flow_ranOffInAll : Int32) (cT_flow_width : Nat → Int32) (cT_present_above : Nat → Int32) (cT_present_edge : Nat → Int32) (cT_flow_goesOn : Nat → Int32) (cT_flow_comes : Nat → Int32) (cT_present_kind : Nat → Int32) (cT_flow_keeps : Nat → Int32) (cT_present_pool : Nat → Int32) (cT_flow_holds : Nat → Int32) (cT_present_store : Nat → Int32) (cT_told : Nat → Int32) : va_W := [(aT, .inr (6, [.ref aT_present, .ref aT_picture, .ref aT_trial, .ref aT_flow, .ref aT_shares, .ref aT_search, .ref aT_tape, .ref aT_sheets, .ref aT_usual, .ref aT_told, .int vT_pictured])), (aT_present, .inr (2, [.ref aT_present_kind, .ref aT_present_above, .ref aT_present_edge, .ref aT_present_pool, .ref aT_present_store, .ref aT_present_spot, .int vT_present_basins, .int vT_present_spring, .int vT_present_hour, .int vT_present_z])), (aT_flow, .inr (1, [.ref aT_flow_comes, .ref aT_flow_keeps, .ref aT_flow_holds, .ref aT_flow_goesOn, .ref aT_flow_width, .int vT_flow_kept, .int vT_flow_leaked, .int vT_flow_ranOff, .int vT_flow_uneven, .int vT_flow_keptInAll, .int vT_flow_leakedInAll, .int vT_flow_ranOffInAll])), (aT_flow_width, .inl (cyI, 10, .inl cT_flow_width)), (aT_present_above, .inl (cyI, 10, .inl cT_present_above)), (aT_present_edge, .inl (cyI, 10, .inl cT_present_edge)), (aT_flow_goesOn, .inl (cyI, 10, .inl cT_flow_goesOn)), (aT_flow_comes, .inl (cyI, 10, .inl cT_flow_comes)), (aT_present_kind, .inl (cyI, 10, .inl cT_present_kind)), (aT_flow_keeps, .inl (cyI, 10, .inl cT_flow_keeps)), (aT_present_pool, .inl (cyI, 10, .inl cT_present_pool)), (aT_flow_holds, .inl (cyI, 10, .inl cT_flow_holds)), (aT_present_store, .inl (cyI, 10, .inl cT_present_store)), (aT_told, .inl (cyI, 7, .inl cT_told))]
set_option maxHeartbeats 4000000 in
set_option maxRecDepth 100000 in
theorem t_X7_hours (l : Launch) (D : va_G) (cyI cyJ cyZ cyB cyO : ClassId) (aT aT_present aT_flow aT_flow_width aT_present_above aT_present_edge aT_flow_goesOn aT_flow_comes aT_present_kind aT_flow_keeps aT_present_pool aT_flow_holds aT_present_store aT_told aT_picture aT_trial aT_shares aT_search aT_tape aT_sheets aT_usual aT_present_spot : Nat) (vT_pictured : Int32) (vT_present_basins : Int32) (vT_present_spring : Int32) (vT_present_hour : Int32) (vT_present_z : Int32) (vT_flow_kept : Int32) (vT_flow_leaked : Int32) (vT_flow_ranOff : Int32) (vT_flow_uneven : Int32) (vT_flow_keptInAll : Int32) (vT_flow_leakedInAll : Int32) (vT_flow_ranOffInAll : Int32) (cT_flow_width : Nat → Int32) (cT_present_above : Nat → Int32) (cT_present_edge : Nat → Int32) (cT_flow_goesOn : Nat → Int32) (cT_flow_comes : Nat → Int32) (cT_present_kind : Nat → Int32) (cT_flow_keeps : Nat → Int32) (cT_present_pool : Nat → Int32) (cT_flow_holds : Nat → Int32) (cT_present_store : Nat → Int32) (cT_told : Nat → Int32) (x1 : Int32) (out : Int32 × Int32 × Int32 × Int32 × Int32 × Int32 × Int32 × Int32 × Int32 × (Nat → Int32) × (Nat → Int32) × (Nat → Int32) × (Nat → Int32) × (Nat → Int32) × (Nat → Int32) × (Nat → Int32) × (Nat → Int32)) (h : f_X7_hours x1 vT_present_basins vT_present_spring vT_present_hour vT_flow_kept vT_flow_leaked vT_flow_ranOff vT_flow_uneven vT_flow_keptInAll vT_flow_leakedInAll vT_flow_ranOffInAll cT_flow_width cT_present_above cT_present_edge cT_flow_goesOn cT_flow_comes cT_present_kind cT_flow_keeps cT_present_pool cT_flow_holds cT_present_store cT_told = some out) : Mi l yX7_hours wsX7_hours ({ frames := 5, cells := 0, slots := 0, locals := 113 } : Room) D (tyA cyI cyJ cyZ cyB cyO) [.ref aT, .int x1] (w_X7_hours cyI cyJ cyZ cyB cyO aT aT_present aT_flow aT_flow_width aT_present_above aT_present_edge aT_flow_goesOn aT_flow_comes aT_present_kind aT_flow_keeps aT_present_pool aT_flow_holds aT_present_store aT_told aT_picture aT_trial aT_shares aT_search aT_tape aT_sheets aT_usual aT_present_spot vT_pictured vT_present_basins vT_present_spring vT_present_hour vT_present_z vT_flow_kept vT_flow_leaked vT_flow_ranOff vT_flow_uneven vT_flow_keptInAll vT_flow_leakedInAll vT_flow_ranOffInAll cT_flow_width cT_present_above cT_present_edge cT_flow_goesOn cT_flow_comes cT_present_kind cT_flow_keeps cT_present_pool cT_flow_holds cT_present_store cT_told) (w_X7_hours cyI cyJ cyZ cyB cyO aT aT_present aT_flow aT_flow_width aT_present_above aT_present_edge aT_flow_goesOn aT_flow_comes aT_present_kind aT_flow_keeps aT_present_pool aT_flow_holds aT_present_store aT_told aT_picture aT_trial aT_shares aT_search aT_tape aT_sheets aT_usual aT_present_spot vT_pictured vT_present_basins vT_present_spring out.2.1 vT_present_z out.2.2.1 out.2.2.2.1 out.2.2.2.2.1 out.2.2.2.2.2.1 out.2.2.2.2.2.2.1 out.2.2.2.2.2.2.2.1 out.2.2.2.2.2.2.2.2.1 out.2.2.2.2.2.2.2.2.2.1 cT_present_above cT_present_edge out.2.2.2.2.2.2.2.2.2.2.1 out.2.2.2.2.2.2.2.2.2.2.2.1 cT_present_kind out.2.2.2.2.2.2.2.2.2.2.2.2.1 out.2.2.2.2.2.2.2.2.2.2.2.2.2.1 out.2.2.2.2.2.2.2.2.2.2.2.2.2.2.1 out.2.2.2.2.2.2.2.2.2.2.2.2.2.2.2.1 out.2.2.2.2.2.2.2.2.2.2.2.2.2.2.2.2) out.1 := by
  refine Mi.mk (cc := cX7_hours) (maxL := 2) (rt := .int) (own := RX7) (by decide) rfl rfl (Nat.le_of_ble_eq_true rfl) ?_
  intro p e s m args below meth c A Q F hK hP hD hA hret ls hl
  obtain ⟨hx, hb, hml, hown, hts⟩ := id F
  have hS : va_S A s.heap s.heap [] := va_S.rf
  have hl : lv_has ls 2 [(0, .ref aT), (1, .int x1)] := hl
  have in_X7 : ∀ w ∈ wsX70, w ∈ wsX7_hours := by decide +kernel
  have in_X1 : ∀ w ∈ wsX10, w ∈ wsX7_hours := by decide +kernel
  have q6 := hts (Cond.methodLink RX7 122 yX7_within) (List.mem_of_getElem? (i := 6) rfl)
  have q15 := hts (Cond.methodLink RX7 175 yX7_tooLate) (List.mem_of_getElem? (i := 15) rfl)
  have q3 := hts (Cond.fieldLink RX7 25 "ThirdFountain" "flow" "LThirdFountain$Flow;") (List.mem_of_getElem? (i := 3) rfl)
  have q4 := hts (Cond.fieldLink RX7 12 "ThirdFountain" "present" "LThirdFountain$Fountain;") (List.mem_of_getElem? (i := 4) rfl)
  have q20 := hts (Cond.methodLink RX7 178 yX1_pass) (List.mem_of_getElem? (i := 20) rfl)
  have q5 := hts (Cond.fieldLink RX7 182 "ThirdFountain$Flow" "keptInAll" "I") (List.mem_of_getElem? (i := 5) rfl)
  have q2 := hts (Cond.constant RX7 162 (-1000005)) (List.mem_of_getElem? (i := 2) rfl)
  have q10 := hts (Cond.methodLink RX7 82 yX7_tell) (List.mem_of_getElem? (i := 10) rfl)
  have q1 := hts (Cond.constant RX7 81 (-1000001)) (List.mem_of_getElem? (i := 1) rfl)
  unfold f_X7_hours at h
  refine lv_iload_n hx hb dX7_hours_0 rfl (lv_at hl 1 rfl) ?_
  refine lv_iconst (v := 1) hx hb dX7_hours_1 (by decide) ?_
  refine lv_bipush (v := 100) hx hb dX7_hours_2 (by decide) ?_
  obtain ⟨u1, hu1, h⟩ := bd_some h
  refine cl_Si (rest := []) F hK hP hD hS hA hl (t_X7_within l D cyI cyJ cyZ cyB cyO x1 (1 : Int32) (100 : Int32) u1 hu1) (va_cwS 3 hts gX7_hours_X7_within rfl rfl rfl (by decide +kernel) ⟨Nat.le_of_ble_eq_true rfl, Nat.le_of_ble_eq_true rfl⟩) [] [0, 0, 0, 0, 0, 0, 0, 0, 0, 0, 0, 0, 0, 0] [] (w_X7_hours cyI cyJ cyZ cyB cyO aT aT_present aT_flow aT_flow_width aT_present_above aT_present_edge aT_flow_goesOn aT_flow_comes aT_present_kind aT_flow_keeps aT_present_pool aT_flow_holds aT_present_store aT_told aT_picture aT_trial aT_shares aT_search aT_tape aT_sheets aT_usual aT_present_spot vT_pictured vT_present_basins vT_present_spring vT_present_hour vT_present_z vT_flow_kept vT_flow_leaked vT_flow_ranOff vT_flow_uneven vT_flow_keptInAll vT_flow_leakedInAll vT_flow_ranOffInAll cT_flow_width cT_present_above cT_present_edge cT_flow_goesOn cT_flow_comes cT_present_kind cT_flow_keeps cT_present_pool cT_flow_holds cT_present_store cT_told) rfl rfl rfl (by decide +kernel) rfl rfl (Nat.le_of_ble_eq_true rfl) ⟨Nat.zero_le _, Nat.zero_le _⟩ dX7_hours_4 (fun H locs hP hD hS => ?_)
  refine lv_if_ne (tgt := 17) hx hb dX7_hours_7 (by decide) (fun c2 => ?_) (fun c2 => ?_)
  · have h := br_neg c2 h
    refine lv_aload_n hx hb dX7_hours_17 rfl (lv_at hl 0 rfl) ?_
    refine lv_iload_n hx hb dX7_hours_18 rfl (lv_at hl 1 rfl) ?_
    obtain ⟨u3, hu3, h⟩ := bd_some h
    refine cl_Vi (rest := []) F hK hP hD hS hA hl (t_X7_tooLate l D cyI cyJ cyZ cyB cyO aT aT_present aT_picture aT_trial aT_flow aT_shares aT_search aT_tape aT_sheets aT_usual aT_told aT_present_kind aT_present_above aT_present_edge aT_present_pool aT_present_store aT_present_spot vT_pictured vT_present_basins vT_present_spring vT_present_hour vT_present_z x1 u3 hu3) (cwV 1 hts gX7_hours_X7_tooLate rfl rfl rfl (by decide +kernel) ⟨Nat.le_of_ble_eq_true rfl, Nat.le_of_ble_eq_true rfl⟩) 0 [0, 1] [1, 2, 0, 0, 0, 0, 0, 0, 0, 0, 0, 0, 0, 0] [] (w_X7_hours cyI cyJ cyZ cyB cyO aT aT_present aT_flow aT_flow_width aT_present_above aT_present_edge aT_flow_goesOn aT_flow_comes aT_present_kind aT_flow_keeps aT_present_pool aT_flow_holds aT_present_store aT_told aT_picture aT_trial aT_shares aT_search aT_tape aT_sheets aT_usual aT_present_spot vT_pictured vT_present_basins vT_present_spring vT_present_hour vT_present_z vT_flow_kept vT_flow_leaked vT_flow_ranOff vT_flow_uneven vT_flow_keptInAll vT_flow_leakedInAll vT_flow_ranOffInAll cT_flow_width cT_present_above cT_present_edge cT_flow_goesOn cT_flow_comes cT_present_kind cT_flow_keeps cT_present_pool cT_flow_holds cT_present_store cT_told) rfl rfl rfl rfl rfl (by decide +kernel) rfl rfl (Nat.le_of_ble_eq_true rfl) ⟨Nat.zero_le _, Nat.zero_le _⟩ dX7_hours_19 (fun H locs hP hD hS => ?_)
    refine lv_if_eq (tgt := 32) hx hb dX7_hours_22 (by decide) (fun c4 => ?_) (fun c4 => ?_)
    · have h := br_pos c4 h
      refine lv_aload_n hx hb dX7_hours_32 rfl (lv_at hl 0 rfl) ?_
      refine va_get (D := D) (ci := 6) (v := .ref aT_flow) (C := RX7) (T := TX7) (N := 11) hx hb hts in_X7 hown hK hP 0 rfl rfl 3 (by decide) q3 (fun _ h9 => h9) rfl dX7_hours_33 ?_
      refine lv_aload_n hx hb dX7_hours_36 rfl (lv_at hl 0 rfl) ?_
      refine va_get (D := D) (ci := 6) (v := .ref aT_present) (C := RX7) (T := TX7) (N := 11) hx hb hts in_X7 hown hK hP 0 rfl rfl 0 (by decide) q4 (fun _ h9 => h9) rfl dX7_hours_37 ?_
      refine lv_iload_n hx hb dX7_hours_40 rfl (lv_at hl 1 rfl) ?_
      obtain ⟨u5, hu5, h⟩ := bd_some h
      refine cl_Vv (rest := []) F hK hP hD hS hA hl (t_X1_pass l D cyI cyJ cyZ cyB cyO aT_flow aT_present aT_flow_width aT_present_above aT_present_edge aT_flow_goesOn aT_flow_comes aT_present_kind aT_flow_keeps aT_present_pool aT_flow_holds aT_present_store aT_present_spot vT_flow_kept vT_flow_leaked vT_flow_ranOff vT_flow_uneven vT_flow_keptInAll vT_flow_leakedInAll vT_flow_ranOffInAll vT_present_basins vT_present_spring vT_present_hour vT_present_z cT_flow_width cT_present_above cT_present_edge cT_flow_goesOn cT_flow_comes cT_present_kind cT_flow_keeps cT_present_pool cT_flow_holds cT_present_store x1 u5 hu5) (cwV 2 hts gX7_hours_X1_pass rfl rfl rfl (by decide +kernel) ⟨Nat.le_of_ble_eq_true rfl, Nat.le_of_ble_eq_true rfl⟩) 2 [2, 1, 3, 4, 5, 6, 7, 8, 9, 10, 11, 12] [0, 2, 1, 3, 4, 5, 6, 7, 8, 9, 10, 11, 12, 0] [] (w_X7_hours cyI cyJ cyZ cyB cyO aT aT_present aT_flow aT_flow_width aT_present_above aT_present_edge aT_flow_goesOn aT_flow_comes aT_present_kind aT_flow_keeps aT_present_pool aT_flow_holds aT_present_store aT_told aT_picture aT_trial aT_shares aT_search aT_tape aT_sheets aT_usual aT_present_spot vT_pictured vT_present_basins vT_present_spring u5.2.2.2.2.2.2.2.1 vT_present_z u5.1 u5.2.1 u5.2.2.1 u5.2.2.2.1 u5.2.2.2.2.1 u5.2.2.2.2.2.1 u5.2.2.2.2.2.2.1 u5.2.2.2.2.2.2.2.2.1 cT_present_above cT_present_edge u5.2.2.2.2.2.2.2.2.2.1 u5.2.2.2.2.2.2.2.2.2.2.1 cT_present_kind u5.2.2.2.2.2.2.2.2.2.2.2.1 u5.2.2.2.2.2.2.2.2.2.2.2.2.1 u5.2.2.2.2.2.2.2.2.2.2.2.2.2.1 u5.2.2.2.2.2.2.2.2.2.2.2.2.2.2 cT_told) rfl rfl rfl rfl rfl (by decide +kernel) rfl rfl (Nat.le_of_ble_eq_true rfl) ⟨Nat.zero_le _, Nat.zero_le _⟩ dX7_hours_41 (fun H locs hP hD hS => ?_)
      refine lv_aload_n hx hb dX7_hours_44 rfl (lv_at hl 0 rfl) ?_
      refine va_get (D := D) (ci := 6) (v := .ref aT_flow) (C := RX7) (T := TX7) (N := 11) hx hb hts in_X7 hown hK hP 0 rfl rfl 3 (by decide) q3 (fun _ h9 => h9) rfl dX7_hours_45 ?_
      refine va_get (D := D) (ci := 1) (v := .int u5.2.2.2.2.1) (C := RX1) (T := TX1) (N := 12) hx hb hts in_X1 hown hK hP 2 rfl rfl 9 (by decide) q5 (fun _ h9 => h9) rfl dX7_hours_48 ?_
      obtain rfl := Option.some.inj h
      exact hret _ _ _ _ _ hP hD hS dX7_hours_51 rfl rfl
    · have h := br_neg c4 h
      refine lv_aload_n hx hb dX7_hours_25 rfl (lv_at hl 0 rfl) ?_
      refine lv_ldc (v := -1000005) hx hb hown q2 dX7_hours_26 ?_
      obtain ⟨u6, hu6, h⟩ := bd_some h
      refine cl_Vi (rest := []) F hK hP hD hS hA hl (t_X7_tell l D cyI cyJ cyZ cyB cyO aT aT_told aT_present aT_picture aT_trial aT_flow aT_shares aT_search aT_tape aT_sheets aT_usual vT_pictured cT_told (-1000005 : Int32) u6 hu6) (cwV 1 hts gX7_hours_X7_tell rfl rfl rfl (by decide +kernel) ⟨Nat.le_of_ble_eq_true rfl, Nat.le_of_ble_eq_true rfl⟩) 0 [0, 13] [1, 0, 0, 0, 0, 0, 0, 0, 0, 0, 0, 0, 0, 2] [] (w_X7_hours cyI cyJ cyZ cyB cyO aT aT_present aT_flow aT_flow_width aT_present_above aT_present_edge aT_flow_goesOn aT_flow_comes aT_present_kind aT_flow_keeps aT_present_pool aT_flow_holds aT_present_store aT_told aT_picture aT_trial aT_shares aT_search aT_tape aT_sheets aT_usual aT_present_spot vT_pictured vT_present_basins vT_present_spring vT_present_hour vT_present_z vT_flow_kept vT_flow_leaked vT_flow_ranOff vT_flow_uneven vT_flow_keptInAll vT_flow_leakedInAll vT_flow_ranOffInAll cT_flow_width cT_present_above cT_present_edge cT_flow_goesOn cT_flow_comes cT_present_kind cT_flow_keeps cT_present_pool cT_flow_holds cT_present_store u6.2) rfl rfl rfl rfl rfl (by decide +kernel) rfl rfl (Nat.le_of_ble_eq_true rfl) ⟨Nat.zero_le _, Nat.zero_le _⟩ dX7_hours_28 (fun H locs hP hD hS => ?_)
      obtain rfl := Option.some.inj h
      exact hret _ _ _ _ _ hP hD hS dX7_hours_31 rfl rfl
  · have h := br_pos c2 h
    refine lv_aload_n hx hb dX7_hours_10 rfl (lv_at hl 0 rfl) ?_
    refine lv_ldc (v := -1000001) hx hb hown q1 dX7_hours_11 ?_
    obtain ⟨u7, hu7, h⟩ := bd_some h
    refine cl_Vi (rest := []) F hK hP hD hS hA hl (t_X7_tell l D cyI cyJ cyZ cyB cyO aT aT_told aT_present aT_picture aT_trial aT_flow aT_shares aT_search aT_tape aT_sheets aT_usual vT_pictured cT_told (-1000001 : Int32) u7 hu7) (cwV 1 hts gX7_hours_X7_tell rfl rfl rfl (by decide +kernel) ⟨Nat.le_of_ble_eq_true rfl, Nat.le_of_ble_eq_true rfl⟩) 0 [0, 13] [1, 0, 0, 0, 0, 0, 0, 0, 0, 0, 0, 0, 0, 2] [] (w_X7_hours cyI cyJ cyZ cyB cyO aT aT_present aT_flow aT_flow_width aT_present_above aT_present_edge aT_flow_goesOn aT_flow_comes aT_present_kind aT_flow_keeps aT_present_pool aT_flow_holds aT_present_store aT_told aT_picture aT_trial aT_shares aT_search aT_tape aT_sheets aT_usual aT_present_spot vT_pictured vT_present_basins vT_present_spring vT_present_hour vT_present_z vT_flow_kept vT_flow_leaked vT_flow_ranOff vT_flow_uneven vT_flow_keptInAll vT_flow_leakedInAll vT_flow_ranOffInAll cT_flow_width cT_present_above cT_present_edge cT_flow_goesOn cT_flow_comes cT_present_kind cT_flow_keeps cT_present_pool cT_flow_holds cT_present_store u7.2) rfl rfl rfl rfl rfl (by decide +kernel) rfl rfl (Nat.le_of_ble_eq_true rfl) ⟨Nat.zero_le _, Nat.zero_le _⟩ dX7_hours_13 (fun H locs hP hD hS => ?_)
    obtain rfl := Option.some.inj h
    exact hret _ _ _ _ _ hP hD hS dX7_hours_16 rfl rfl
/-! ===== X7_now ===== -/
def w_X7_now (cyI cyJ cyZ cyB cyO : ClassId) (aT aT_present aT_present_store aT_present_pool aT_flow aT_flow_width aT_present_above aT_present_edge aT_flow_goesOn aT_flow_comes aT_present_kind aT_flow_keeps aT_flow_holds aT_told aT_picture aT_trial aT_shares aT_search aT_tape aT_sheets aT_usual aT_present_spot : Nat) (vT_pictured : Int32) (vT_present_basins : Int32) (vT_present_spring : Int32) (vT_present_hour : Int32) (vT_present_z : Int32) (cT_present_store : Nat → Int32) (cT_present_pool : Nat → Int32) (vT_flow_kept : Int32) (vT_flow_leaked : Int32) (vT_flow_ranOff : Int32) (vT_flow_uneven : Int32) (vT_flow_keptInAll : Int32) (vT_flow_leakedInAll : Int32) (vT_flow_ranOffInAll : Int32) (cT_flow_width : Nat → Int32) (cT_present_above : Nat → Int32) (cT_present_edge : Nat → Int32) (cT_flow_goesOn : Nat → Int32) (cT_flow_comes : Nat → Int32) (cT_present_kind : Nat → Int32) (cT_flow_keeps : Nat → Int32) (cT_flow_holds : Nat → Int32) (cT_told : Nat → Int32) : va_W := [(aT, .inr (6, [.ref aT_present, .ref aT_picture, .ref aT_trial, .ref aT_flow, .ref aT_shares, .ref aT_search, .ref aT_tape, .ref aT_sheets, .ref aT_usual, .ref aT_told, .int vT_pictured])), (aT_present, .inr (2, [.ref aT_present_kind, .ref aT_present_above, .ref aT_present_edge, .ref aT_present_pool, .ref aT_present_store, .ref aT_present_spot, .int vT_present_basins, .int vT_present_spring, .int vT_present_hour, .int vT_present_z])), (aT_present_store, .inl (cyI, 10, .inl cT_present_store)), (aT_present_pool, .inl (cyI, 10, .inl cT_present_pool)), (aT_flow, .inr (1, [.ref aT_flow_comes, .ref aT_flow_keeps, .ref aT_flow_holds, .ref aT_flow_goesOn, .ref aT_flow_width, .int vT_flow_kept, .int vT_flow_leaked, .int vT_flow_ranOff, .int vT_flow_uneven, .int vT_flow_keptInAll, .int vT_flow_leakedInAll, .int vT_flow_ranOffInAll])), (aT_flow_width, .inl (cyI, 10, .inl cT_flow_width)), (aT_present_above, .inl (cyI, 10, .inl cT_present_above)), (aT_present_edge, .inl (cyI, 10, .inl cT_present_edge)), (aT_flow_goesOn, .inl (cyI, 10, .inl cT_flow_goesOn)), (aT_flow_comes, .inl (cyI, 10, .inl cT_flow_comes)), (aT_present_kind, .inl (cyI, 10, .inl cT_present_kind)), (aT_flow_keeps, .inl (cyI, 10, .inl cT_flow_keeps)), (aT_flow_holds, .inl (cyI, 10, .inl cT_flow_holds)), (aT_told, .inl (cyI, 7, .inl cT_told))]
set_option maxHeartbeats 4000000 in
set_option maxRecDepth 100000 in
theorem t_X7_now (l : Launch) (D : va_G) (cyI cyJ cyZ cyB cyO : ClassId) (aT aT_present aT_present_store aT_present_pool aT_flow aT_flow_width aT_present_above aT_present_edge aT_flow_goesOn aT_flow_comes aT_present_kind aT_flow_keeps aT_flow_holds aT_told aT_picture aT_trial aT_shares aT_search aT_tape aT_sheets aT_usual aT_present_spot : Nat) (vT_pictured : Int32) (vT_present_basins : Int32) (vT_present_spring : Int32) (vT_present_hour : Int32) (vT_present_z : Int32) (cT_present_store : Nat → Int32) (cT_present_pool : Nat → Int32) (vT_flow_kept : Int32) (vT_flow_leaked : Int32) (vT_flow_ranOff : Int32) (vT_flow_uneven : Int32) (vT_flow_keptInAll : Int32) (vT_flow_leakedInAll : Int32) (vT_flow_ranOffInAll : Int32) (cT_flow_width : Nat → Int32) (cT_present_above : Nat → Int32) (cT_present_edge : Nat → Int32) (cT_flow_goesOn : Nat → Int32) (cT_flow_comes : Nat → Int32) (cT_present_kind : Nat → Int32) (cT_flow_keeps : Nat → Int32) (cT_flow_holds : Nat → Int32) (cT_told : Nat → Int32) (x1 : Int32) (out : Int32 × Int32 × Int32 × Int32 × Int32 × (Nat → Int32) × (Nat → Int32) × (Nat → Int32) × (Nat → Int32) × (Nat → Int32) × (Nat → Int32)) (h : f_X7_now x1 vT_present_basins vT_present_spring vT_present_hour cT_present_store cT_present_pool vT_flow_kept vT_flow_leaked vT_flow_ranOff vT_flow_uneven cT_flow_width cT_present_above cT_present_edge cT_flow_goesOn cT_flow_comes cT_present_kind cT_flow_keeps cT_flow_holds cT_told = some out) : Mi l yX7_now wsX7_now ({ frames := 4, cells := 0, slots := 0, locals := 90 } : Room) D (tyA cyI cyJ cyZ cyB cyO) [.ref aT, .int x1] (w_X7_now cyI cyJ cyZ cyB cyO aT aT_present aT_present_store aT_present_pool aT_flow aT_flow_width aT_present_above aT_present_edge aT_flow_goesOn aT_flow_comes aT_present_kind aT_flow_keeps aT_flow_holds aT_told aT_picture aT_trial aT_shares aT_search aT_tape aT_sheets aT_usual aT_present_spot vT_pictured vT_present_basins vT_present_spring vT_present_hour vT_present_z cT_present_store cT_present_pool vT_flow_kept vT_flow_leaked vT_flow_ranOff vT_flow_uneven vT_flow_keptInAll vT_flow_leakedInAll vT_flow_ranOffInAll cT_flow_width cT_present_above cT_present_edge cT_flow_goesOn cT_flow_comes cT_present_kind cT_flow_keeps cT_flow_holds cT_told) (w_X7_now cyI cyJ cyZ cyB cyO aT aT_present aT_present_store aT_present_pool aT_flow aT_flow_width aT_present_above aT_present_edge aT_flow_goesOn aT_flow_comes aT_present_kind aT_flow_keeps aT_flow_holds aT_told aT_picture aT_trial aT_shares aT_search aT_tape aT_sheets aT_usual aT_present_spot vT_pictured vT_present_basins vT_present_spring vT_present_hour vT_present_z cT_present_store cT_present_pool out.2.1 out.2.2.1 out.2.2.2.1 out.2.2.2.2.1 vT_flow_keptInAll vT_flow_leakedInAll vT_flow_ranOffInAll out.2.2.2.2.2.1 cT_present_above cT_present_edge out.2.2.2.2.2.2.1 out.2.2.2.2.2.2.2.1 cT_present_kind out.2.2.2.2.2.2.2.2.1 out.2.2.2.2.2.2.2.2.2.1 out.2.2.2.2.2.2.2.2.2.2) out.1 := by
  refine Mi.mk (cc := cX7_now) (maxL := 2) (rt := .int) (own := RX7) (by decide) rfl rfl (Nat.le_of_ble_eq_true rfl) ?_
  intro p e s m args below meth c A Q F hK hP hD hA hret ls hl
  obtain ⟨hx, hb, hml, hown, hts⟩ := id F
  have hS : va_S A s.heap s.heap [] := va_S.rf
  have hl : lv_has ls 2 [(0, .ref aT), (1, .int x1)] := hl
  have in_X7 : ∀ w ∈ wsX70, w ∈ wsX7_now := by decide +kernel
  have in_X2 : ∀ w ∈ wsX20, w ∈ wsX7_now := by decide +kernel
  have in_X1 : ∀ w ∈ wsX10, w ∈ wsX7_now := by decide +kernel
  have q1 := hts (Cond.fieldLink RX7 12 "ThirdFountain" "present" "LThirdFountain$Fountain;") (List.mem_of_getElem? (i := 1) rfl)
  have q2 := hts (Cond.fieldLink RX7 185 "ThirdFountain$Fountain" "hour" "I") (List.mem_of_getElem? (i := 2) rfl)
  have q3 := hts (Cond.fieldLink RX7 126 "ThirdFountain$Fountain" "spring" "I") (List.mem_of_getElem? (i := 3) rfl)
  have q4 := hts (Cond.fieldLink RX7 103 "ThirdFountain$Fountain" "store" "[I") (List.mem_of_getElem? (i := 4) rfl)
  have q11 := hts (Cond.methodLink RX7 188 yX2_sum) (List.mem_of_getElem? (i := 11) rfl)
  have q5 := hts (Cond.fieldLink RX7 100 "ThirdFountain$Fountain" "pool" "[I") (List.mem_of_getElem? (i := 5) rfl)
  have q6 := hts (Cond.fieldLink RX7 25 "ThirdFountain" "flow" "LThirdFountain$Flow;") (List.mem_of_getElem? (i := 6) rfl)
  have q17 := hts (Cond.methodLink RX7 106 yX1_reckon) (List.mem_of_getElem? (i := 17) rfl)
  have q7 := hts (Cond.fieldLink RX7 192 "ThirdFountain$Flow" "ranOff" "I") (List.mem_of_getElem? (i := 7) rfl)
  have q8 := hts (Cond.fieldLink RX7 195 "ThirdFountain$Flow" "leaked" "I") (List.mem_of_getElem? (i := 8) rfl)
  have q9 := hts (Cond.fieldLink RX7 198 "ThirdFountain$Flow" "kept" "I") (List.mem_of_getElem? (i := 9) rfl)
  have q10 := hts (Cond.constant RX7 81 (-1000001)) (List.mem_of_getElem? (i := 10) rfl)
  have q66 := hts (Cond.methodLink RX7 82 yX7_tell) (List.mem_of_getElem? (i := 66) rfl)
  unfold f_X7_now at h
  refine lv_iload_n hx hb dX7_now_0 rfl (lv_at hl 1 rfl) ?_
  by_cases c1 : x1 = 0
  · have h := br_pos c1 h
    refine lv_tableIn (off := 43) (tgt := 44) hx hb dX7_now_1 (by rw [c1]; decide) (by rw [c1]; decide) (by rw [c1]; rfl) (by decide) ?_
    refine lv_aload_n hx hb dX7_now_44 rfl (lv_at hl 0 rfl) ?_
    refine va_get (D := D) (ci := 6) (v := .ref aT_present) (C := RX7) (T := TX7) (N := 11) hx hb hts in_X7 hown hK hP 0 rfl rfl 0 (by decide) q1 (fun _ h9 => h9) rfl dX7_now_45 ?_
    refine va_get (D := D) (ci := 2) (v := .int vT_present_hour) (C := RX2) (T := TX2) (N := 10) hx hb hts in_X2 hown hK hP 1 rfl rfl 8 (by decide) q2 (fun _ h9 => h9) rfl dX7_now_48 ?_
    obtain rfl := Option.some.inj h
    exact hret _ _ _ _ _ hP hD hS dX7_now_51 rfl rfl
  have h := br_neg c1 h
  by_cases c2 : x1 = 1
  · have h := br_pos c2 h
    refine lv_tableIn (off := 51) (tgt := 52) hx hb dX7_now_1 (by rw [c2]; decide) (by rw [c2]; decide) (by rw [c2]; rfl) (by decide) ?_
    refine lv_aload_n hx hb dX7_now_52 rfl (lv_at hl 0 rfl) ?_
    refine va_get (D := D) (ci := 6) (v := .ref aT_present) (C := RX7) (T := TX7) (N := 11) hx hb hts in_X7 hown hK hP 0 rfl rfl 0 (by decide) q1 (fun _ h9 => h9) rfl dX7_now_53 ?_
    refine va_get (D := D) (ci := 2) (v := .int vT_present_spring) (C := RX2) (T := TX2) (N := 10) hx hb hts in_X2 hown hK hP 1 rfl rfl 7 (by decide) q3 (fun _ h9 => h9) rfl dX7_now_56 ?_
    obtain rfl := Option.some.inj h
    exact hret _ _ _ _ _ hP hD hS dX7_now_59 rfl rfl
  have h := br_neg c2 h
  by_cases c3 : x1 = 2
  · have h := br_pos c3 h
    refine lv_tableIn (off := 59) (tgt := 60) hx hb dX7_now_1 (by rw [c3]; decide) (by rw [c3]; decide) (by rw [c3]; rfl) (by decide) ?_
    refine lv_aload_n hx hb dX7_now_60 rfl (lv_at hl 0 rfl) ?_
    refine va_get (D := D) (ci := 6) (v := .ref aT_present) (C := RX7) (T := TX7) (N := 11) hx hb hts in_X7 hown hK hP 0 rfl rfl 0 (by decide) q1 (fun _ h9 => h9) rfl dX7_now_61 ?_
    refine lv_aload_n hx hb dX7_now_64 rfl (lv_at hl 0 rfl) ?_
    refine va_get (D := D) (ci := 6) (v := .ref aT_present) (C := RX7) (T := TX7) (N := 11) hx hb hts in_X7 hown hK hP 0 rfl rfl 0 (by decide) q1 (fun _ h9 => h9) rfl dX7_now_65 ?_
    refine va_get (D := D) (ci := 2) (v := .ref aT_present_store) (C := RX2) (T := TX2) (N := 10) hx hb hts in_X2 hown hK hP 1 rfl rfl 4 (by decide) q4 (fun _ h9 => h9) rfl dX7_now_68 ?_
    obtain ⟨u8, hu8, h⟩ := bd_some h
    refine cl_Vi (rest := []) F hK hP hD hS hA hl (t_X2_sum l D cyI cyJ cyZ cyB cyO aT_present_store aT_present aT_present_kind aT_present_above aT_present_edge aT_present_pool aT_present_store aT_present_spot cT_present_store vT_present_basins vT_present_spring vT_present_hour vT_present_z u8 hu8) (cwV 1 hts gX7_now_X2_sum rfl rfl rfl (by decide +kernel) ⟨Nat.le_of_ble_eq_true rfl, Nat.le_of_ble_eq_true rfl⟩) 1 [2, 1] [0, 2, 1, 0, 0, 0, 0, 0, 0, 0, 0, 0, 0, 0] [] (w_X7_now cyI cyJ cyZ cyB cyO aT aT_present aT_present_store aT_present_pool aT_flow aT_flow_width aT_present_above aT_present_edge aT_flow_goesOn aT_flow_comes aT_present_kind aT_flow_keeps aT_flow_holds aT_told aT_picture aT_trial aT_shares aT_search aT_tape aT_sheets aT_usual aT_present_spot vT_pictured vT_present_basins vT_present_spring vT_present_hour vT_present_z cT_present_store cT_present_pool vT_flow_kept vT_flow_leaked vT_flow_ranOff vT_flow_uneven vT_flow_keptInAll vT_flow_leakedInAll vT_flow_ranOffInAll cT_flow_width cT_present_above cT_present_edge cT_flow_goesOn cT_flow_comes cT_present_kind cT_flow_keeps cT_flow_holds cT_told) rfl rfl rfl rfl rfl (by decide +kernel) rfl rfl (Nat.le_of_ble_eq_true rfl) ⟨Nat.zero_le _, Nat.zero_le _⟩ dX7_now_71 (fun H locs hP hD hS => ?_)
    obtain rfl := Option.some.inj h
    exact hret _ _ _ _ _ hP hD hS dX7_now_74 rfl rfl
  have h := br_neg c3 h
  by_cases c4 : x1 = 3
  · have h := br_pos c4 h
    refine lv_tableIn (off := 74) (tgt := 75) hx hb dX7_now_1 (by rw [c4]; decide) (by rw [c4]; decide) (by rw [c4]; rfl) (by decide) ?_
    refine lv_aload_n hx hb dX7_now_75 rfl (lv_at hl 0 rfl) ?_
    refine va_get (D := D) (ci := 6) (v := .ref aT_present) (C := RX7) (T := TX7) (N := 11) hx hb hts in_X7 hown hK hP 0 rfl rfl 0 (by decide) q1 (fun _ h9 => h9) rfl dX7_now_76 ?_
    refine lv_aload_n hx hb dX7_now_79 rfl (lv_at hl 0 rfl) ?_
    refine va_get (D := D) (ci := 6) (v := .ref aT_present) (C := RX7) (T := TX7) (N := 11) hx hb hts in_X7 hown hK hP 0 rfl rfl 0 (by decide) q1 (fun _ h9 => h9) rfl dX7_now_80 ?_
    refine va_get (D := D) (ci := 2) (v := .ref aT_present_pool) (C := RX2) (T := TX2) (N := 10) hx hb hts in_X2 hown hK hP 1 rfl rfl 3 (by decide) q5 (fun _ h9 => h9) rfl dX7_now_83 ?_
    obtain ⟨u9, hu9, h⟩ := bd_some h
    refine cl_Vi (rest := []) F hK hP hD hS hA hl (t_X2_sum l D cyI cyJ cyZ cyB cyO aT_present_pool aT_present aT_present_kind aT_present_above aT_present_edge aT_present_pool aT_present_store aT_present_spot cT_present_pool vT_present_basins vT_present_spring vT_present_hour vT_present_z u9 hu9) (cwV 1 hts gX7_now_X2_sum rfl rfl rfl (by decide +kernel) ⟨Nat.le_of_ble_eq_true rfl, Nat.le_of_ble_eq_true rfl⟩) 1 [3, 1] [0, 2, 0, 1, 0, 0, 0, 0, 0, 0, 0, 0, 0, 0] [] (w_X7_now cyI cyJ cyZ cyB cyO aT aT_present aT_present_store aT_present_pool aT_flow aT_flow_width aT_present_above aT_present_edge aT_flow_goesOn aT_flow_comes aT_present_kind aT_flow_keeps aT_flow_holds aT_told aT_picture aT_trial aT_shares aT_search aT_tape aT_sheets aT_usual aT_present_spot vT_pictured vT_present_basins vT_present_spring vT_present_hour vT_present_z cT_present_store cT_present_pool vT_flow_kept vT_flow_leaked vT_flow_ranOff vT_flow_uneven vT_flow_keptInAll vT_flow_leakedInAll vT_flow_ranOffInAll cT_flow_width cT_present_above cT_present_edge cT_flow_goesOn cT_flow_comes cT_present_kind cT_flow_keeps cT_flow_holds cT_told) rfl rfl rfl rfl rfl (by decide +kernel) rfl rfl (Nat.le_of_ble_eq_true rfl) ⟨Nat.zero_le _, Nat.zero_le _⟩ dX7_now_86 (fun H locs hP hD hS => ?_)
    obtain rfl := Option.some.inj h
    exact hret _ _ _ _ _ hP hD hS dX7_now_89 rfl rfl
  have h := br_neg c4 h
  by_cases c5 : x1 = 4
  · have h := br_pos c5 h
    refine lv_tableIn (off := 89) (tgt := 90) hx hb dX7_now_1 (by rw [c5]; decide) (by rw [c5]; decide) (by rw [c5]; rfl) (by decide) ?_
    refine lv_aload_n hx hb dX7_now_90 rfl (lv_at hl 0 rfl) ?_
    refine va_get (D := D) (ci := 6) (v := .ref aT_flow) (C := RX7) (T := TX7) (N := 11) hx hb hts in_X7 hown hK hP 0 rfl rfl 3 (by decide) q6 (fun _ h9 => h9) rfl dX7_now_91 ?_
    refine lv_aload_n hx hb dX7_now_94 rfl (lv_at hl 0 rfl) ?_
    refine va_get (D := D) (ci := 6) (v := .ref aT_present) (C := RX7) (T := TX7) (N := 11) hx hb hts in_X7 hown hK hP 0 rfl rfl 0 (by decide) q1 (fun _ h9 => h9) rfl dX7_now_95 ?_
    obtain ⟨u10, hu10, h⟩ := bd_some h
    refine cl_Vv (rest := []) F hK hP hD hS hA hl (t_X1_reckon l D cyI cyJ cyZ cyB cyO aT_flow aT_present aT_flow_width aT_present_above aT_present_edge aT_flow_goesOn aT_flow_comes aT_present_kind aT_flow_keeps aT_present_pool aT_flow_holds aT_present_store aT_present_spot vT_flow_kept vT_flow_leaked vT_flow_ranOff vT_flow_uneven vT_flow_keptInAll vT_flow_leakedInAll vT_flow_ranOffInAll vT_present_basins vT_present_spring vT_present_hour vT_present_z cT_flow_width cT_present_above cT_present_edge cT_flow_goesOn cT_flow_comes cT_present_kind cT_flow_keeps cT_present_pool cT_flow_holds u10 hu10) (cwV 1 hts gX7_now_X1_reckon rfl rfl rfl (by decide +kernel) ⟨Nat.le_of_ble_eq_true rfl, Nat.le_of_ble_eq_true rfl⟩) 4 [4, 1, 5, 6, 7, 8, 9, 10, 11, 3, 12] [0, 2, 0, 10, 1, 3, 4, 5, 6, 7, 8, 9, 11, 0] [] (w_X7_now cyI cyJ cyZ cyB cyO aT aT_present aT_present_store aT_present_pool aT_flow aT_flow_width aT_present_above aT_present_edge aT_flow_goesOn aT_flow_comes aT_present_kind aT_flow_keeps aT_flow_holds aT_told aT_picture aT_trial aT_shares aT_search aT_tape aT_sheets aT_usual aT_present_spot vT_pictured vT_present_basins vT_present_spring vT_present_hour vT_present_z cT_present_store cT_present_pool u10.1 u10.2.1 u10.2.2.1 u10.2.2.2.1 vT_flow_keptInAll vT_flow_leakedInAll vT_flow_ranOffInAll u10.2.2.2.2.1 cT_present_above cT_present_edge u10.2.2.2.2.2.1 u10.2.2.2.2.2.2.1 cT_present_kind u10.2.2.2.2.2.2.2.1 u10.2.2.2.2.2.2.2.2 cT_told) rfl rfl rfl rfl rfl (by decide +kernel) rfl rfl (Nat.le_of_ble_eq_true rfl) ⟨Nat.zero_le _, Nat.zero_le _⟩ dX7_now_98 (fun H locs hP hD hS => ?_)
    refine lv_aload_n hx hb dX7_now_101 rfl (lv_at hl 0 rfl) ?_
    refine va_get (D := D) (ci := 6) (v := .ref aT_flow) (C := RX7) (T := TX7) (N := 11) hx hb hts in_X7 hown hK hP 0 rfl rfl 3 (by decide) q6 (fun _ h9 => h9) rfl dX7_now_102 ?_
    refine va_get (D := D) (ci := 1) (v := .int u10.2.2.1) (C := RX1) (T := TX1) (N := 12) hx hb hts in_X1 hown hK hP 4 rfl rfl 7 (by decide) q7 (fun _ h9 => h9) rfl dX7_now_105 ?_
    obtain rfl := Option.some.inj h
    exact hret _ _ _ _ _ hP hD hS dX7_now_108 rfl rfl
  have h := br_neg c5 h
  by_cases c6 : x1 = 5
  · have h := br_pos c6 h
    refine lv_tableIn (off := 108) (tgt := 109) hx hb dX7_now_1 (by rw [c6]; decide) (by rw [c6]; decide) (by rw [c6]; rfl) (by decide) ?_
    refine lv_aload_n hx hb dX7_now_109 rfl (lv_at hl 0 rfl) ?_
    refine va_get (D := D) (ci := 6) (v := .ref aT_flow) (C := RX7) (T := TX7) (N := 11) hx hb hts in_X7 hown hK hP 0 rfl rfl 3 (by decide) q6 (fun _ h9 => h9) rfl dX7_now_110 ?_
    refine lv_aload_n hx hb dX7_now_113 rfl (lv_at hl 0 rfl) ?_
    refine va_get (D := D) (ci := 6) (v := .ref aT_present) (C := RX7) (T := TX7) (N := 11) hx hb hts in_X7 hown hK hP 0 rfl rfl 0 (by decide) q1 (fun _ h9 => h9) rfl dX7_now_114 ?_
    obtain ⟨u11, hu11, h⟩ := bd_some h
    refine cl_Vv (rest := []) F hK hP hD hS hA hl (t_X1_reckon l D cyI cyJ cyZ cyB cyO aT_flow aT_present aT_flow_width aT_present_above aT_present_edge aT_flow_goesOn aT_flow_comes aT_present_kind aT_flow_keeps aT_present_pool aT_flow_holds aT_present_store aT_present_spot vT_flow_kept vT_flow_leaked vT_flow_ranOff vT_flow_uneven vT_flow_keptInAll vT_flow_leakedInAll vT_flow_ranOffInAll vT_present_basins vT_present_spring vT_present_hour vT_present_z cT_flow_width cT_present_above cT_present_edge cT_flow_goesOn cT_flow_comes cT_present_kind cT_flow_keeps cT_present_pool cT_flow_holds u11 hu11) (cwV 1 hts gX7_now_X1_reckon rfl rfl rfl (by decide +kernel) ⟨Nat.le_of_ble_eq_true rfl, Nat.le_of_ble_eq_true rfl⟩) 4 [4, 1, 5, 6, 7, 8, 9, 10, 11, 3, 12] [0, 2, 0, 10, 1, 3, 4, 5, 6, 7, 8, 9, 11, 0] [] (w_X7_now cyI cyJ cyZ cyB cyO aT aT_present aT_present_store aT_present_pool aT_flow aT_flow_width aT_present_above aT_present_edge aT_flow_goesOn aT_flow_comes aT_present_kind aT_flow_keeps aT_flow_holds aT_told aT_picture aT_trial aT_shares aT_search aT_tape aT_sheets aT_usual aT_present_spot vT_pictured vT_present_basins vT_present_spring vT_present_hour vT_present_z cT_present_store cT_present_pool u11.1 u11.2.1 u11.2.2.1 u11.2.2.2.1 vT_flow_keptInAll vT_flow_leakedInAll vT_flow_ranOffInAll u11.2.2.2.2.1 cT_present_above cT_present_edge u11.2.2.2.2.2.1 u11.2.2.2.2.2.2.1 cT_present_kind u11.2.2.2.2.2.2.2.1 u11.2.2.2.2.2.2.2.2 cT_told) rfl rfl rfl rfl rfl (by decide +kernel) rfl rfl (Nat.le_of_ble_eq_true rfl) ⟨Nat.zero_le _, Nat.zero_le _⟩ dX7_now_117 (fun H locs hP hD hS => ?_)
    refine lv_aload_n hx hb dX7_now_120 rfl (lv_at hl 0 rfl) ?_
    refine va_get (D := D) (ci := 6) (v := .ref aT_flow) (C := RX7) (T := TX7) (N := 11) hx hb hts in_X7 hown hK hP 0 rfl rfl 3 (by decide) q6 (fun _ h9 => h9) rfl dX7_now_121 ?_
    refine va_get (D := D) (ci := 1) (v := .int u11.2.1) (C := RX1) (T := TX1) (N := 12) hx hb hts in_X1 hown hK hP 4 rfl rfl 6 (by decide) q8 (fun _ h9 => h9) rfl dX7_now_124 ?_
    obtain rfl := Option.some.inj h
    exact hret _ _ _ _ _ hP hD hS dX7_now_127 rfl rfl
  have h := br_neg c6 h
  by_cases c7 : x1 = 6
  · have h := br_pos c7 h
    refine lv_tableIn (off := 127) (tgt := 128) hx hb dX7_now_1 (by rw [c7]; decide) (by rw [c7]; decide) (by rw [c7]; rfl) (by decide) ?_
    refine lv_aload_n hx hb dX7_now_128 rfl (lv_at hl 0 rfl) ?_
    refine va_get (D := D) (ci := 6) (v := .ref aT_flow) (C := RX7) (T := TX7) (N := 11) hx hb hts in_X7 hown hK hP 0 rfl rfl 3 (by decide) q6 (fun _ h9 => h9) rfl dX7_now_129 ?_
    refine lv_aload_n hx hb dX7_now_132 rfl (lv_at hl 0 rfl) ?_
    refine va_get (D := D) (ci := 6) (v := .ref aT_present) (C := RX7) (T := TX7) (N := 11) hx hb hts in_X7 hown hK hP 0 rfl rfl 0 (by decide) q1 (fun _ h9 => h9) rfl dX7_now_133 ?_
    obtain ⟨u12, hu12, h⟩ := bd_some h
    refine cl_Vv (rest := []) F hK hP hD hS hA hl (t_X1_reckon l D cyI cyJ cyZ cyB cyO aT_flow aT_present aT_flow_width aT_present_above aT_present_edge aT_flow_goesOn aT_flow_comes aT_present_kind aT_flow_keeps aT_present_pool aT_flow_holds aT_present_store aT_present_spot vT_flow_kept vT_flow_leaked vT_flow_ranOff vT_flow_uneven vT_flow_keptInAll vT_flow_leakedInAll vT_flow_ranOffInAll vT_present_basins vT_present_spring vT_present_hour vT_present_z cT_flow_width cT_present_above cT_present_edge cT_flow_goesOn cT_flow_comes cT_present_kind cT_flow_keeps cT_present_pool cT_flow_holds u12 hu12) (cwV 1 hts gX7_now_X1_reckon rfl rfl rfl (by decide +kernel) ⟨Nat.le_of_ble_eq_true rfl, Nat.le_of_ble_eq_true rfl⟩) 4 [4, 1, 5, 6, 7, 8, 9, 10, 11, 3, 12] [0, 2, 0, 10, 1, 3, 4, 5, 6, 7, 8, 9, 11, 0] [] (w_X7_now cyI cyJ cyZ cyB cyO aT aT_present aT_present_store aT_present_pool aT_flow aT_flow_width aT_present_above aT_present_edge aT_flow_goesOn aT_flow_comes aT_present_kind aT_flow_keeps aT_flow_holds aT_told aT_picture aT_trial aT_shares aT_search aT_tape aT_sheets aT_usual aT_present_spot vT_pictured vT_present_basins vT_present_spring vT_present_hour vT_present_z cT_present_store cT_present_pool u12.1 u12.2.1 u12.2.2.1 u12.2.2.2.1 vT_flow_keptInAll vT_flow_leakedInAll vT_flow_ranOffInAll u12.2.2.2.2.1 cT_present_above cT_present_edge u12.2.2.2.2.2.1 u12.2.2.2.2.2.2.1 cT_present_kind u12.2.2.2.2.2.2.2.1 u12.2.2.2.2.2.2.2.2 cT_told) rfl rfl rfl rfl rfl (by decide +kernel) rfl rfl (Nat.le_of_ble_eq_true rfl) ⟨Nat.zero_le _, Nat.zero_le _⟩ dX7_now_136 (fun H locs hP hD hS => ?_)
    refine lv_aload_n hx hb dX7_now_139 rfl (lv_at hl 0 rfl) ?_
    refine va_get (D := D) (ci := 6) (v := .ref aT_flow) (C := RX7) (T := TX7) (N := 11) hx hb hts in_X7 hown hK hP 0 rfl rfl 3 (by decide) q6 (fun _ h9 => h9) rfl dX7_now_140 ?_
    refine va_get (D := D) (ci := 1) (v := .int u12.1) (C := RX1) (T := TX1) (N := 12) hx hb hts in_X1 hown hK hP 4 rfl rfl 5 (by decide) q9 (fun _ h9 => h9) rfl dX7_now_143 ?_
    obtain rfl := Option.some.inj h
    exact hret _ _ _ _ _ hP hD hS dX7_now_146 rfl rfl
  have h := br_neg c7 h
  refine lv_tableOut (tgt := 147) hx hb dX7_now_1 (sw_c c1 (sw_c c2 (sw_c c3 (sw_c c4 (sw_c c5 (sw_c c6 (sw_c c7 (sw_n (by decide))))))))) (by decide) ?_
  refine lv_aload_n hx hb dX7_now_147 rfl (lv_at hl 0 rfl) ?_
  refine lv_ldc (v := -1000001) hx hb hown q10 dX7_now_148 ?_
  obtain ⟨u13, hu13, h⟩ := bd_some h
  refine cl_Vi (rest := []) F hK hP hD hS hA hl (t_X7_tell l D cyI cyJ cyZ cyB cyO aT aT_told aT_present aT_picture aT_trial aT_flow aT_shares aT_search aT_tape aT_sheets aT_usual vT_pictured cT_told (-1000001 : Int32) u13 hu13) (cwV 1 hts gX7_now_X7_tell rfl rfl rfl (by decide +kernel) ⟨Nat.le_of_ble_eq_true rfl, Nat.le_of_ble_eq_true rfl⟩) 0 [0, 13] [1, 0, 0, 0, 0, 0, 0, 0, 0, 0, 0, 0, 0, 2] [] (w_X7_now cyI cyJ cyZ cyB cyO aT aT_present aT_present_store aT_present_pool aT_flow aT_flow_width aT_present_above aT_present_edge aT_flow_goesOn aT_flow_comes aT_present_kind aT_flow_keeps aT_flow_holds aT_told aT_picture aT_trial aT_shares aT_search aT_tape aT_sheets aT_usual aT_present_spot vT_pictured vT_present_basins vT_present_spring vT_present_hour vT_present_z cT_present_store cT_present_pool vT_flow_kept vT_flow_leaked vT_flow_ranOff vT_flow_uneven vT_flow_keptInAll vT_flow_leakedInAll vT_flow_ranOffInAll cT_flow_width cT_present_above cT_present_edge cT_flow_goesOn cT_flow_comes cT_present_kind cT_flow_keeps cT_flow_holds u13.2) rfl rfl rfl rfl rfl (by decide +kernel) rfl rfl (Nat.le_of_ble_eq_true rfl) ⟨Nat.zero_le _, Nat.zero_le _⟩ dX7_now_150 (fun H locs hP hD hS => ?_)
  obtain rfl := Option.some.inj h
  exact hret _ _ _ _ _ hP hD hS dX7_now_153 rfl rfl
/-! ===== X7_startTrial ===== -/
def w_X7_startTrial (cyI cyJ cyZ cyB cyO : ClassId) (aT aT_trial aT_present aT_present_kind aT_trial_kind aT_present_above aT_trial_above aT_present_edge aT_trial_edge aT_present_pool aT_trial_pool aT_present_store aT_trial_store aT_present_spot aT_trial_spot aT_picture aT_flow aT_shares aT_search aT_tape aT_sheets aT_usual aT_told : Nat) (vT_pictured : Int32) (vT_trial_basins : Int32) (vT_trial_spring : Int32) (vT_trial_hour : Int32) (vT_trial_z : Int32) (vT_present_basins : Int32) (vT_present_spring : Int32) (vT_present_hour : Int32) (vT_present_z : Int32) (cT_present_kind : Nat → Int32) (cT_trial_kind : Nat → Int32) (cT_present_above : Nat → Int32) (cT_trial_above : Nat → Int32) (cT_present_edge : Nat → Int32) (cT_trial_edge : Nat → Int32) (cT_present_pool : Nat → Int32) (cT_trial_pool : Nat → Int32) (cT_present_store : Nat → Int32) (cT_trial_store : Nat → Int32) (cT_present_spot : Nat → Int32) (cT_trial_spot : Nat → Int32) : va_W := [(aT, .inr (6, [.ref aT_present, .ref aT_picture, .ref aT_trial, .ref aT_flow, .ref aT_shares, .ref aT_search, .ref aT_tape, .ref aT_sheets, .ref aT_usual, .ref aT_told, .int vT_pictured])), (aT_trial, .inr (2, [.ref aT_trial_kind, .ref aT_trial_above, .ref aT_trial_edge, .ref aT_trial_pool, .ref aT_trial_store, .ref aT_trial_spot, .int vT_trial_basins, .int vT_trial_spring, .int vT_trial_hour, .int vT_trial_z])), (aT_present, .inr (2, [.ref aT_present_kind, .ref aT_present_above, .ref aT_present_edge, .ref aT_present_pool, .ref aT_present_store, .ref aT_present_spot, .int vT_present_basins, .int vT_present_spring, .int vT_present_hour, .int vT_present_z])), (aT_present_kind, .inl (cyI, 10, .inl cT_present_kind)), (aT_trial_kind, .inl (cyI, 10, .inl cT_trial_kind)), (aT_present_above, .inl (cyI, 10, .inl cT_present_above)), (aT_trial_above, .inl (cyI, 10, .inl cT_trial_above)), (aT_present_edge, .inl (cyI, 10, .inl cT_present_edge)), (aT_trial_edge, .inl (cyI, 10, .inl cT_trial_edge)), (aT_present_pool, .inl (cyI, 10, .inl cT_present_pool)), (aT_trial_pool, .inl (cyI, 10, .inl cT_trial_pool)), (aT_present_store, .inl (cyI, 10, .inl cT_present_store)), (aT_trial_store, .inl (cyI, 10, .inl cT_trial_store)), (aT_present_spot, .inl (cyI, 10, .inl cT_present_spot)), (aT_trial_spot, .inl (cyI, 10, .inl cT_trial_spot))]
set_option maxHeartbeats 4000000 in
set_option maxRecDepth 100000 in
theorem t_X7_startTrial (l : Launch) (D : va_G) (cyI cyJ cyZ cyB cyO : ClassId) (aT aT_trial aT_present aT_present_kind aT_trial_kind aT_present_above aT_trial_above aT_present_edge aT_trial_edge aT_present_pool aT_trial_pool aT_present_store aT_trial_store aT_present_spot aT_trial_spot aT_picture aT_flow aT_shares aT_search aT_tape aT_sheets aT_usual aT_told : Nat) (vT_pictured : Int32) (vT_trial_basins : Int32) (vT_trial_spring : Int32) (vT_trial_hour : Int32) (vT_trial_z : Int32) (vT_present_basins : Int32) (vT_present_spring : Int32) (vT_present_hour : Int32) (vT_present_z : Int32) (cT_present_kind : Nat → Int32) (cT_trial_kind : Nat → Int32) (cT_present_above : Nat → Int32) (cT_trial_above : Nat → Int32) (cT_present_edge : Nat → Int32) (cT_trial_edge : Nat → Int32) (cT_present_pool : Nat → Int32) (cT_trial_pool : Nat → Int32) (cT_present_store : Nat → Int32) (cT_trial_store : Nat → Int32) (cT_present_spot : Nat → Int32) (cT_trial_spot : Nat → Int32) (out : Int32 × Int32 × Int32 × Int32 × (Nat → Int32) × (Nat → Int32) × (Nat → Int32) × (Nat → Int32) × (Nat → Int32) × (Nat → Int32)) (h : f_X7_startTrial vT_trial_basins vT_trial_spring vT_trial_hour vT_trial_z vT_present_basins vT_present_spring vT_present_hour vT_present_z cT_present_kind cT_trial_kind cT_present_above cT_trial_above cT_present_edge cT_trial_edge cT_present_pool cT_trial_pool cT_present_store cT_trial_store cT_present_spot cT_trial_spot = some out) : Mv l yX7_startTrial wsX7_startTrial ({ frames := 2, cells := 0, slots := 0, locals := 47 } : Room) D (tyA cyI cyJ cyZ cyB cyO) [.ref aT] (w_X7_startTrial cyI cyJ cyZ cyB cyO aT aT_trial aT_present aT_present_kind aT_trial_kind aT_present_above aT_trial_above aT_present_edge aT_trial_edge aT_present_pool aT_trial_pool aT_present_store aT_trial_store aT_present_spot aT_trial_spot aT_picture aT_flow aT_shares aT_search aT_tape aT_sheets aT_usual aT_told vT_pictured vT_trial_basins vT_trial_spring vT_trial_hour vT_trial_z vT_present_basins vT_present_spring vT_present_hour vT_present_z cT_present_kind cT_trial_kind cT_present_above cT_trial_above cT_present_edge cT_trial_edge cT_present_pool cT_trial_pool cT_present_store cT_trial_store cT_present_spot cT_trial_spot) (w_X7_startTrial cyI cyJ cyZ cyB cyO aT aT_trial aT_present aT_present_kind aT_trial_kind aT_present_above aT_trial_above aT_present_edge aT_trial_edge aT_present_pool aT_trial_pool aT_present_store aT_trial_store aT_present_spot aT_trial_spot aT_picture aT_flow aT_shares aT_search aT_tape aT_sheets aT_usual aT_told vT_pictured out.1 out.2.1 out.2.2.1 out.2.2.2.1 vT_present_basins vT_present_spring vT_present_hour vT_present_z cT_present_kind out.2.2.2.2.1 cT_present_above out.2.2.2.2.2.1 cT_present_edge out.2.2.2.2.2.2.1 cT_present_pool out.2.2.2.2.2.2.2.1 cT_present_store out.2.2.2.2.2.2.2.2.1 cT_present_spot out.2.2.2.2.2.2.2.2.2) := by
  refine Mv.mk (cc := cX7_startTrial) (maxL := 1) (own := RX7) (by decide) rfl rfl (Nat.le_of_ble_eq_true rfl) ?_
  intro p e s m args below meth c A Q F hK hP hD hA hret ls hl
  obtain ⟨hx, hb, hml, hown, hts⟩ := id F
  have hS : va_S A s.heap s.heap [] := va_S.rf
  have hl : lv_has ls 1 [(0, .ref aT)] := hl
  have in_X7 : ∀ w ∈ wsX70, w ∈ wsX7_startTrial := by decide +kernel
  have q1 := hts (Cond.fieldLink RX7 19 "ThirdFountain" "trial" "LThirdFountain$Fountain;") (List.mem_of_getElem? (i := 1) rfl)
  have q2 := hts (Cond.fieldLink RX7 12 "ThirdFountain" "present" "LThirdFountain$Fountain;") (List.mem_of_getElem? (i := 2) rfl)
  have q3 := hts (Cond.methodLink RX7 272 yX2_become) (List.mem_of_getElem? (i := 3) rfl)
  unfold f_X7_startTrial at h
  refine lv_aload_n hx hb dX7_startTrial_0 rfl (lv_at hl 0 rfl) ?_
  refine va_get (D := D) (ci := 6) (v := .ref aT_trial) (C := RX7) (T := TX7) (N := 11) hx hb hts in_X7 hown hK hP 0 rfl rfl 2 (by decide) q1 (fun _ h9 => h9) rfl dX7_startTrial_1 ?_
  refine lv_aload_n hx hb dX7_startTrial_4 rfl (lv_at hl 0 rfl) ?_
  refine va_get (D := D) (ci := 6) (v := .ref aT_present) (C := RX7) (T := TX7) (N := 11) hx hb hts in_X7 hown hK hP 0 rfl rfl 0 (by decide) q2 (fun _ h9 => h9) rfl dX7_startTrial_5 ?_
  obtain ⟨u1, hu1, h⟩ := bd_some h
  refine cl_Vv (rest := []) F hK hP hD hS hA hl (t_X2_become l D cyI cyJ cyZ cyB cyO aT_present aT_trial aT_present_kind aT_trial_kind aT_present_above aT_trial_above aT_present_edge aT_trial_edge aT_present_pool aT_trial_pool aT_present_store aT_trial_store aT_present_spot aT_trial_spot vT_present_basins vT_present_spring vT_present_hour vT_present_z vT_trial_basins vT_trial_spring vT_trial_hour vT_trial_z cT_present_kind cT_trial_kind cT_present_above cT_trial_above cT_present_edge cT_trial_edge cT_present_pool cT_trial_pool cT_present_store cT_trial_store cT_present_spot cT_trial_spot u1 hu1) (cwV 1 hts gX7_startTrial_X2_become rfl rfl rfl (by decide +kernel) ⟨Nat.le_of_ble_eq_true rfl, Nat.le_of_ble_eq_true rfl⟩) 1 [2, 1, 3, 4, 5, 6, 7, 8, 9, 10, 11, 12, 13, 14] [0, 2, 1, 3, 4, 5, 6, 7, 8, 9, 10, 11, 12, 13, 14] [] (w_X7_startTrial cyI cyJ cyZ cyB cyO aT aT_trial aT_present aT_present_kind aT_trial_kind aT_present_above aT_trial_above aT_present_edge aT_trial_edge aT_present_pool aT_trial_pool aT_present_store aT_trial_store aT_present_spot aT_trial_spot aT_picture aT_flow aT_shares aT_search aT_tape aT_sheets aT_usual aT_told vT_pictured u1.1 u1.2.1 u1.2.2.1 u1.2.2.2.1 vT_present_basins vT_present_spring vT_present_hour vT_present_z cT_present_kind u1.2.2.2.2.1 cT_present_above u1.2.2.2.2.2.1 cT_present_edge u1.2.2.2.2.2.2.1 cT_present_pool u1.2.2.2.2.2.2.2.1 cT_present_store u1.2.2.2.2.2.2.2.2.1 cT_present_spot u1.2.2.2.2.2.2.2.2.2) rfl rfl rfl rfl rfl (by decide +kernel) rfl rfl (Nat.le_of_ble_eq_true rfl) ⟨Nat.zero_le _, Nat.zero_le _⟩ dX7_startTrial_8 (fun H locs hP hD hS => ?_)
  obtain rfl := Option.some.inj h
  exact hret _ _ _ _ hP hD hS dX7_startTrial_11 
/-! ===== X7_gain ===== -/
def w_X7_gain (cyI cyJ cyZ cyB cyO : ClassId) (aT aT_trial aT_trial_store aT_present aT_present_store aT_picture aT_flow aT_shares aT_search aT_tape aT_sheets aT_usual aT_told aT_trial_kind aT_trial_above aT_trial_edge aT_trial_pool aT_trial_spot aT_present_kind aT_present_above aT_present_edge aT_present_pool aT_present_spot : Nat) (vT_pictured : Int32) (vT_trial_basins : Int32) (vT_trial_spring : Int32) (vT_trial_hour : Int32) (vT_trial_z : Int32) (cT_trial_store : Nat → Int32) (vT_present_basins : Int32) (vT_present_spring : Int32) (vT_present_hour : Int32) (vT_present_z : Int32) (cT_present_store : Nat → Int32) : va_W := [(aT, .inr (6, [.ref aT_present, .ref aT_picture, .ref aT_trial, .ref aT_flow, .ref aT_shares, .ref aT_search, .ref aT_tape, .ref aT_sheets, .ref aT_usual, .ref aT_told, .int vT_pictured])), (aT_trial, .inr (2, [.ref aT_trial_kind, .ref aT_trial_above, .ref aT_trial_edge, .ref aT_trial_pool, .ref aT_trial_store, .ref aT_trial_spot, .int vT_trial_basins, .int vT_trial_spring, .int vT_trial_hour, .int vT_trial_z])), (aT_trial_store, .inl (cyI, 10, .inl cT_trial_store)), (aT_present, .inr (2, [.ref aT_present_kind, .ref aT_present_above, .ref aT_present_edge, .ref aT_present_pool, .ref aT_present_store, .ref aT_present_spot, .int vT_present_basins, .int vT_present_spring, .int vT_present_hour, .int vT_present_z])), (aT_present_store, .inl (cyI, 10, .inl cT_present_store))]
set_option maxHeartbeats 4000000 in
set_option maxRecDepth 100000 in
theorem t_X7_gain (l : Launch) (D : va_G) (cyI cyJ cyZ cyB cyO : ClassId) (aT aT_trial aT_trial_store aT_present aT_present_store aT_picture aT_flow aT_shares aT_search aT_tape aT_sheets aT_usual aT_told aT_trial_kind aT_trial_above aT_trial_edge aT_trial_pool aT_trial_spot aT_present_kind aT_present_above aT_present_edge aT_present_pool aT_present_spot : Nat) (vT_pictured : Int32) (vT_trial_basins : Int32) (vT_trial_spring : Int32) (vT_trial_hour : Int32) (vT_trial_z : Int32) (cT_trial_store : Nat → Int32) (vT_present_basins : Int32) (vT_present_spring : Int32) (vT_present_hour : Int32) (vT_present_z : Int32) (cT_present_store : Nat → Int32) (x1 : Int32) (out : Int32) (h : f_X7_gain x1 cT_trial_store cT_present_store = some out) : Mi l yX7_gain wsX7_gain ({ frames := 0, cells := 0, slots := 0, locals := 0 } : Room) D (tyA cyI cyJ cyZ cyB cyO) [.ref aT, .int x1] (w_X7_gain cyI cyJ cyZ cyB cyO aT aT_trial aT_trial_store aT_present aT_present_store aT_picture aT_flow aT_shares aT_search aT_tape aT_sheets aT_usual aT_told aT_trial_kind aT_trial_above aT_trial_edge aT_trial_pool aT_trial_spot aT_present_kind aT_present_above aT_present_edge aT_present_pool aT_present_spot vT_pictured vT_trial_basins vT_trial_spring vT_trial_hour vT_trial_z cT_trial_store vT_present_basins vT_present_spring vT_present_hour vT_present_z cT_present_store) (w_X7_gain cyI cyJ cyZ cyB cyO aT aT_trial aT_trial_store aT_present aT_present_store aT_picture aT_flow aT_shares aT_search aT_tape aT_sheets aT_usual aT_told aT_trial_kind aT_trial_above aT_trial_edge aT_trial_pool aT_trial_spot aT_present_kind aT_present_above aT_present_edge aT_present_pool aT_present_spot vT_pictured vT_trial_basins vT_trial_spring vT_trial_hour vT_trial_z cT_trial_store vT_present_basins vT_present_spring vT_present_hour vT_present_z cT_present_store) out := by
  refine Mi.mk (cc := cX7_gain) (maxL := 2) (rt := .int) (own := RX7) (by decide) rfl rfl (Nat.le_of_ble_eq_true rfl) ?_
  intro p e s m args below meth c A Q F hK hP hD hA hret ls hl
  obtain ⟨hx, hb, hml, hown, hts⟩ := id F
  have hS : va_S A s.heap s.heap [] := va_S.rf
  have hl : lv_has ls 2 [(0, .ref aT), (1, .int x1)] := hl
  have in_X7 : ∀ w ∈ wsX70, w ∈ wsX7_gain := by decide +kernel
  have in_X2 : ∀ w ∈ wsX20, w ∈ wsX7_gain := by decide +kernel
  have q1 := hts (Cond.fieldLink RX7 19 "ThirdFountain" "trial" "LThirdFountain$Fountain;") (List.mem_of_getElem? (i := 1) rfl)
  have q2 := hts (Cond.fieldLink RX7 103 "ThirdFountain$Fountain" "store" "[I") (List.mem_of_getElem? (i := 2) rfl)
  have q3 := hts (Cond.fieldLink RX7 12 "ThirdFountain" "present" "LThirdFountain$Fountain;") (List.mem_of_getElem? (i := 3) rfl)
  unfold f_X7_gain at h
  refine lv_aload_n hx hb dX7_gain_0 rfl (lv_at hl 0 rfl) ?_
  refine va_get (D := D) (ci := 6) (v := .ref aT_trial) (C := RX7) (T := TX7) (N := 11) hx hb hts in_X7 hown hK hP 0 rfl rfl 2 (by decide) q1 (fun _ h9 => h9) rfl dX7_gain_1 ?_
  refine va_get (D := D) (ci := 2) (v := .ref aT_trial_store) (C := RX2) (T := TX2) (N := 10) hx hb hts in_X2 hown hK hP 1 rfl rfl 4 (by decide) q2 (fun _ h9 => h9) rfl dX7_gain_4 ?_
  refine lv_iload_n hx hb dX7_gain_7 rfl (lv_at hl 1 rfl) ?_
  obtain ⟨g1, h⟩ := gd_some h
  refine va_iald hx hb hK hP 2 0 rfl rfl g1 dX7_gain_8 ?_
  refine lv_aload_n hx hb dX7_gain_9 rfl (lv_at hl 0 rfl) ?_
  refine va_get (D := D) (ci := 6) (v := .ref aT_present) (C := RX7) (T := TX7) (N := 11) hx hb hts in_X7 hown hK hP 0 rfl rfl 0 (by decide) q3 (fun _ h9 => h9) rfl dX7_gain_10 ?_
  refine va_get (D := D) (ci := 2) (v := .ref aT_present_store) (C := RX2) (T := TX2) (N := 10) hx hb hts in_X2 hown hK hP 3 rfl rfl 4 (by decide) q2 (fun _ h9 => h9) rfl dX7_gain_13 ?_
  refine lv_iload_n hx hb dX7_gain_16 rfl (lv_at hl 1 rfl) ?_
  obtain ⟨g2, h⟩ := gd_some h
  refine va_iald hx hb hK hP 4 0 rfl rfl g2 dX7_gain_17 ?_
  refine lv_isub hx hb dX7_gain_18 ?_
  obtain rfl := Option.some.inj h
  exact hret _ _ _ _ _ hP hD hS dX7_gain_19 rfl rfl
