/-! ===== X8_add ===== -/
def w_X8_add (cyI cyJ cyZ cyB cyO : ClassId) (aM aM_kind aM_below aM_edge aM_pool aM_store aM_came aM_got aM_keep aM_off : Nat) (vM_n : Int32) (vM_spring : Int32) (vM_hour : Int32) (vM_z : Int32) (vM_kept : Int32) (vM_ran : Int32) (vM_leaked : Int32) (cM_kind : Nat → Int32) (cM_below : Nat → Int32) (cM_edge : Nat → Int32) (cM_pool : Nat → Int32) (cM_store : Nat → Int32) : va_W := [(aM, .inr (7, [.ref aM_kind, .ref aM_below, .ref aM_edge, .ref aM_pool, .ref aM_store, .ref aM_came, .ref aM_got, .ref aM_keep, .ref aM_off, .int vM_n, .int vM_spring, .int vM_hour, .int vM_z, .int vM_kept, .int vM_ran, .int vM_leaked])), (aM_kind, .inl (cyI, 10, .inl cM_kind)), (aM_below, .inl (cyI, 10, .inl cM_below)), (aM_edge, .inl (cyI, 10, .inl cM_edge)), (aM_pool, .inl (cyI, 10, .inl cM_pool)), (aM_store, .inl (cyI, 10, .inl cM_store))]
set_option maxHeartbeats 4000000 in
set_option maxRecDepth 100000 in
theorem t_X8_add (l : Launch) (D : va_G) (cyI cyJ cyZ cyB cyO : ClassId) (aM aM_kind aM_below aM_edge aM_pool aM_store aM_came aM_got aM_keep aM_off : Nat) (vM_n : Int32) (vM_spring : Int32) (vM_hour : Int32) (vM_z : Int32) (vM_kept : Int32) (vM_ran : Int32) (vM_leaked : Int32) (cM_kind : Nat → Int32) (cM_below : Nat → Int32) (cM_edge : Nat → Int32) (cM_pool : Nat → Int32) (cM_store : Nat → Int32) (x1 : Int32) (x2 : Int32) (x3 : Int32) (out : Int32 × (Nat → Int32) × (Nat → Int32) × (Nat → Int32) × (Nat → Int32) × (Nat → Int32)) (h : f_X8_add x1 x2 x3 vM_n cM_kind cM_below cM_edge cM_pool cM_store = some out) : Mv l yX8_add wsX8_add ({ frames := 0, cells := 0, slots := 0, locals := 0 } : Room) D (tyA cyI cyJ cyZ cyB cyO) [.ref aM, .int x1, .int x2, .int x3] (w_X8_add cyI cyJ cyZ cyB cyO aM aM_kind aM_below aM_edge aM_pool aM_store aM_came aM_got aM_keep aM_off vM_n vM_spring vM_hour vM_z vM_kept vM_ran vM_leaked cM_kind cM_below cM_edge cM_pool cM_store) (w_X8_add cyI cyJ cyZ cyB cyO aM aM_kind aM_below aM_edge aM_pool aM_store aM_came aM_got aM_keep aM_off out.1 vM_spring vM_hour vM_z vM_kept vM_ran vM_leaked out.2.1 out.2.2.1 out.2.2.2.1 out.2.2.2.2.1 out.2.2.2.2.2) := by
  refine Mv.mk (cc := cX8_add) (maxL := 4) (own := RX8) (by decide) rfl rfl (Nat.le_of_ble_eq_true rfl) ?_
  intro p e s m args below meth c A Q F hK hP hD hA hret ls hl
  obtain ⟨hx, hb, hml, hown, hts⟩ := id F
  have hS : va_S A s.heap s.heap [] := va_S.rf
  have hl : lv_has ls 4 [(0, .ref aM), (1, .int x1), (2, .int x2), (3, .int x3)] := hl
  have in_X8 : ∀ w ∈ wsX80, w ∈ wsX8_add := by decide +kernel
  have q1 := hts (Cond.fieldLink RX8 7 "ThirdFountainLaw$Well" "kind" "[I") (List.mem_of_getElem? (i := 1) rfl)
  have q2 := hts (Cond.fieldLink RX8 50 "ThirdFountainLaw$Well" "n" "I") (List.mem_of_getElem? (i := 2) rfl)
  have q3 := hts (Cond.fieldLink RX8 13 "ThirdFountainLaw$Well" "below" "[I") (List.mem_of_getElem? (i := 3) rfl)
  have q4 := hts (Cond.fieldLink RX8 16 "ThirdFountainLaw$Well" "edge" "[I") (List.mem_of_getElem? (i := 4) rfl)
  have q5 := hts (Cond.fieldLink RX8 19 "ThirdFountainLaw$Well" "pool" "[I") (List.mem_of_getElem? (i := 5) rfl)
  have q6 := hts (Cond.fieldLink RX8 22 "ThirdFountainLaw$Well" "store" "[I") (List.mem_of_getElem? (i := 6) rfl)
  unfold f_X8_add at h
  refine lv_aload_n hx hb dX8_add_0 rfl (lv_at hl 0 rfl) ?_
  refine va_get (D := D) (ci := 7) (v := .ref aM_kind) (C := RX8) (T := TX8) (N := 16) hx hb hts in_X8 hown hK hP 0 rfl rfl 0 (by decide) q1 (fun _ h9 => h9) rfl dX8_add_1 ?_
  refine lv_aload_n hx hb dX8_add_4 rfl (lv_at hl 0 rfl) ?_
  refine va_get (D := D) (ci := 7) (v := .int vM_n) (C := RX8) (T := TX8) (N := 16) hx hb hts in_X8 hown hK hP 0 rfl rfl 9 (by decide) q2 (fun _ h9 => h9) rfl dX8_add_5 ?_
  refine lv_iload_n hx hb dX8_add_8 rfl (lv_at hl 1 rfl) ?_
  obtain ⟨g1, h⟩ := gd_some h
  refine va_iast hx hb hK hP hD hS 1 0 rfl rfl g1 dX8_add_9 (fun H locs hP hD hS => ?_)
  have hP : va_P D vwCl (w_X8_add cyI cyJ cyZ cyB cyO aM aM_kind aM_below aM_edge aM_pool aM_store aM_came aM_got aM_keep aM_off vM_n vM_spring vM_hour vM_z vM_kept vM_ran vM_leaked (upd cM_kind vM_n.toNatClampNeg x1) cM_below cM_edge cM_pool cM_store) H := hP
  have hD : va_D A (w_X8_add cyI cyJ cyZ cyB cyO aM aM_kind aM_below aM_edge aM_pool aM_store aM_came aM_got aM_keep aM_off vM_n vM_spring vM_hour vM_z vM_kept vM_ran vM_leaked (upd cM_kind vM_n.toNatClampNeg x1) cM_below cM_edge cM_pool cM_store) := hD
  refine lv_aload_n hx hb dX8_add_10 rfl (lv_at hl 0 rfl) ?_
  refine va_get (D := D) (ci := 7) (v := .ref aM_below) (C := RX8) (T := TX8) (N := 16) hx hb hts in_X8 hown hK hP 0 rfl rfl 1 (by decide) q3 (fun _ h9 => h9) rfl dX8_add_11 ?_
  refine lv_aload_n hx hb dX8_add_14 rfl (lv_at hl 0 rfl) ?_
  refine va_get (D := D) (ci := 7) (v := .int vM_n) (C := RX8) (T := TX8) (N := 16) hx hb hts in_X8 hown hK hP 0 rfl rfl 9 (by decide) q2 (fun _ h9 => h9) rfl dX8_add_15 ?_
  refine lv_iload_n hx hb dX8_add_18 rfl (lv_at hl 2 rfl) ?_
  obtain ⟨g2, h⟩ := gd_some h
  refine va_iast hx hb hK hP hD hS 2 0 rfl rfl g2 dX8_add_19 (fun H locs hP hD hS => ?_)
  have hP : va_P D vwCl (w_X8_add cyI cyJ cyZ cyB cyO aM aM_kind aM_below aM_edge aM_pool aM_store aM_came aM_got aM_keep aM_off vM_n vM_spring vM_hour vM_z vM_kept vM_ran vM_leaked (upd cM_kind vM_n.toNatClampNeg x1) (upd cM_below vM_n.toNatClampNeg x2) cM_edge cM_pool cM_store) H := hP
  have hD : va_D A (w_X8_add cyI cyJ cyZ cyB cyO aM aM_kind aM_below aM_edge aM_pool aM_store aM_came aM_got aM_keep aM_off vM_n vM_spring vM_hour vM_z vM_kept vM_ran vM_leaked (upd cM_kind vM_n.toNatClampNeg x1) (upd cM_below vM_n.toNatClampNeg x2) cM_edge cM_pool cM_store) := hD
  refine lv_aload_n hx hb dX8_add_20 rfl (lv_at hl 0 rfl) ?_
  refine va_get (D := D) (ci := 7) (v := .ref aM_edge) (C := RX8) (T := TX8) (N := 16) hx hb hts in_X8 hown hK hP 0 rfl rfl 2 (by decide) q4 (fun _ h9 => h9) rfl dX8_add_21 ?_
  refine lv_aload_n hx hb dX8_add_24 rfl (lv_at hl 0 rfl) ?_
  refine va_get (D := D) (ci := 7) (v := .int vM_n) (C := RX8) (T := TX8) (N := 16) hx hb hts in_X8 hown hK hP 0 rfl rfl 9 (by decide) q2 (fun _ h9 => h9) rfl dX8_add_25 ?_
  refine lv_iload_n hx hb dX8_add_28 rfl (lv_at hl 3 rfl) ?_
  obtain ⟨g3, h⟩ := gd_some h
  refine va_iast hx hb hK hP hD hS 3 0 rfl rfl g3 dX8_add_29 (fun H locs hP hD hS => ?_)
  have hP : va_P D vwCl (w_X8_add cyI cyJ cyZ cyB cyO aM aM_kind aM_below aM_edge aM_pool aM_store aM_came aM_got aM_keep aM_off vM_n vM_spring vM_hour vM_z vM_kept vM_ran vM_leaked (upd cM_kind vM_n.toNatClampNeg x1) (upd cM_below vM_n.toNatClampNeg x2) (upd cM_edge vM_n.toNatClampNeg x3) cM_pool cM_store) H := hP
  have hD : va_D A (w_X8_add cyI cyJ cyZ cyB cyO aM aM_kind aM_below aM_edge aM_pool aM_store aM_came aM_got aM_keep aM_off vM_n vM_spring vM_hour vM_z vM_kept vM_ran vM_leaked (upd cM_kind vM_n.toNatClampNeg x1) (upd cM_below vM_n.toNatClampNeg x2) (upd cM_edge vM_n.toNatClampNeg x3) cM_pool cM_store) := hD
  refine lv_aload_n hx hb dX8_add_30 rfl (lv_at hl 0 rfl) ?_
  refine va_get (D := D) (ci := 7) (v := .ref aM_pool) (C := RX8) (T := TX8) (N := 16) hx hb hts in_X8 hown hK hP 0 rfl rfl 3 (by decide) q5 (fun _ h9 => h9) rfl dX8_add_31 ?_
  refine lv_aload_n hx hb dX8_add_34 rfl (lv_at hl 0 rfl) ?_
  refine va_get (D := D) (ci := 7) (v := .int vM_n) (C := RX8) (T := TX8) (N := 16) hx hb hts in_X8 hown hK hP 0 rfl rfl 9 (by decide) q2 (fun _ h9 => h9) rfl dX8_add_35 ?_
  refine lv_iconst (v := 0) hx hb dX8_add_38 (by decide) ?_
  obtain ⟨g4, h⟩ := gd_some h
  refine va_iast hx hb hK hP hD hS 4 0 rfl rfl g4 dX8_add_39 (fun H locs hP hD hS => ?_)
  have hP : va_P D vwCl (w_X8_add cyI cyJ cyZ cyB cyO aM aM_kind aM_below aM_edge aM_pool aM_store aM_came aM_got aM_keep aM_off vM_n vM_spring vM_hour vM_z vM_kept vM_ran vM_leaked (upd cM_kind vM_n.toNatClampNeg x1) (upd cM_below vM_n.toNatClampNeg x2) (upd cM_edge vM_n.toNatClampNeg x3) (upd cM_pool vM_n.toNatClampNeg (0 : Int32)) cM_store) H := hP
  have hD : va_D A (w_X8_add cyI cyJ cyZ cyB cyO aM aM_kind aM_below aM_edge aM_pool aM_store aM_came aM_got aM_keep aM_off vM_n vM_spring vM_hour vM_z vM_kept vM_ran vM_leaked (upd cM_kind vM_n.toNatClampNeg x1) (upd cM_below vM_n.toNatClampNeg x2) (upd cM_edge vM_n.toNatClampNeg x3) (upd cM_pool vM_n.toNatClampNeg (0 : Int32)) cM_store) := hD
  refine lv_aload_n hx hb dX8_add_40 rfl (lv_at hl 0 rfl) ?_
  refine va_get (D := D) (ci := 7) (v := .ref aM_store) (C := RX8) (T := TX8) (N := 16) hx hb hts in_X8 hown hK hP 0 rfl rfl 4 (by decide) q6 (fun _ h9 => h9) rfl dX8_add_41 ?_
  refine lv_aload_n hx hb dX8_add_44 rfl (lv_at hl 0 rfl) ?_
  refine va_get (D := D) (ci := 7) (v := .int vM_n) (C := RX8) (T := TX8) (N := 16) hx hb hts in_X8 hown hK hP 0 rfl rfl 9 (by decide) q2 (fun _ h9 => h9) rfl dX8_add_45 ?_
  refine lv_iconst (v := 0) hx hb dX8_add_48 (by decide) ?_
  obtain ⟨g5, h⟩ := gd_some h
  refine va_iast hx hb hK hP hD hS 5 0 rfl rfl g5 dX8_add_49 (fun H locs hP hD hS => ?_)
  have hP : va_P D vwCl (w_X8_add cyI cyJ cyZ cyB cyO aM aM_kind aM_below aM_edge aM_pool aM_store aM_came aM_got aM_keep aM_off vM_n vM_spring vM_hour vM_z vM_kept vM_ran vM_leaked (upd cM_kind vM_n.toNatClampNeg x1) (upd cM_below vM_n.toNatClampNeg x2) (upd cM_edge vM_n.toNatClampNeg x3) (upd cM_pool vM_n.toNatClampNeg (0 : Int32)) (upd cM_store vM_n.toNatClampNeg (0 : Int32))) H := hP
  have hD : va_D A (w_X8_add cyI cyJ cyZ cyB cyO aM aM_kind aM_below aM_edge aM_pool aM_store aM_came aM_got aM_keep aM_off vM_n vM_spring vM_hour vM_z vM_kept vM_ran vM_leaked (upd cM_kind vM_n.toNatClampNeg x1) (upd cM_below vM_n.toNatClampNeg x2) (upd cM_edge vM_n.toNatClampNeg x3) (upd cM_pool vM_n.toNatClampNeg (0 : Int32)) (upd cM_store vM_n.toNatClampNeg (0 : Int32))) := hD
  refine lv_aload_n hx hb dX8_add_50 rfl (lv_at hl 0 rfl) ?_
  refine lv_dup hx hb dX8_add_51 rfl ?_
  refine va_get (D := D) (ci := 7) (v := .int vM_n) (C := RX8) (T := TX8) (N := 16) hx hb hts in_X8 hown hK hP 0 rfl rfl 9 (by decide) q2 (fun _ h9 => h9) rfl dX8_add_52 ?_
  refine lv_iconst (v := 1) hx hb dX8_add_55 (by decide) ?_
  refine lv_iadd hx hb dX8_add_56 ?_
  refine va_put (D := D) (ci := 7) (v := .int (vM_n + (1 : Int32))) (ty := .int) (C := RX8) (T := TX8) (N := 16) hx hb hts in_X8 tyX8 tyX8_ok nmX8 hown hK hP hD hS 0 rfl rfl 9 (by decide) q2 (fun _ h9 => h9) rfl (by decide +kernel) rfl rfl (Nat.le_of_ble_eq_true rfl) dX8_add_57 (fun H locs hP hD hS => ?_)
  have hP : va_P D vwCl (w_X8_add cyI cyJ cyZ cyB cyO aM aM_kind aM_below aM_edge aM_pool aM_store aM_came aM_got aM_keep aM_off (vM_n + (1 : Int32)) vM_spring vM_hour vM_z vM_kept vM_ran vM_leaked (upd cM_kind vM_n.toNatClampNeg x1) (upd cM_below vM_n.toNatClampNeg x2) (upd cM_edge vM_n.toNatClampNeg x3) (upd cM_pool vM_n.toNatClampNeg (0 : Int32)) (upd cM_store vM_n.toNatClampNeg (0 : Int32))) H := hP
  have hD : va_D A (w_X8_add cyI cyJ cyZ cyB cyO aM aM_kind aM_below aM_edge aM_pool aM_store aM_came aM_got aM_keep aM_off (vM_n + (1 : Int32)) vM_spring vM_hour vM_z vM_kept vM_ran vM_leaked (upd cM_kind vM_n.toNatClampNeg x1) (upd cM_below vM_n.toNatClampNeg x2) (upd cM_edge vM_n.toNatClampNeg x3) (upd cM_pool vM_n.toNatClampNeg (0 : Int32)) (upd cM_store vM_n.toNatClampNeg (0 : Int32))) := hD
  obtain rfl := Option.some.inj h
  exact hret _ _ _ _ hP hD hS dX8_add_60 
