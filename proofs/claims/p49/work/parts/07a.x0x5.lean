/-! ===== X1_measure ===== -/
def w_X1_measure (cyI cyJ cyZ cyB cyO : ClassId) (aF aW aW_width aF_above aF_edge aF_kind aF_pool aF_store aF_spot aW_comes aW_keeps aW_holds aW_goesOn : Nat) (vF_basins : Int32) (vF_spring : Int32) (vF_hour : Int32) (vF_z : Int32) (vW_kept : Int32) (vW_leaked : Int32) (vW_ranOff : Int32) (vW_uneven : Int32) (vW_keptInAll : Int32) (vW_leakedInAll : Int32) (vW_ranOffInAll : Int32) (cW_width : Nat → Int32) (cF_above : Nat → Int32) (cF_edge : Nat → Int32) : va_W := [(aF, .inr (2, [.ref aF_kind, .ref aF_above, .ref aF_edge, .ref aF_pool, .ref aF_store, .ref aF_spot, .int vF_basins, .int vF_spring, .int vF_hour, .int vF_z])), (aW, .inr (1, [.ref aW_comes, .ref aW_keeps, .ref aW_holds, .ref aW_goesOn, .ref aW_width, .int vW_kept, .int vW_leaked, .int vW_ranOff, .int vW_uneven, .int vW_keptInAll, .int vW_leakedInAll, .int vW_ranOffInAll])), (aW_width, .inl (cyI, 10, .inl cW_width)), (aF_above, .inl (cyI, 10, .inl cF_above)), (aF_edge, .inl (cyI, 10, .inl cF_edge))]
set_option maxHeartbeats 4000000 in
set_option maxRecDepth 100000 in
theorem t_X1_measure (l : Launch) (D : va_G) (cyI cyJ cyZ cyB cyO : ClassId) (aF aW aW_width aF_above aF_edge aF_kind aF_pool aF_store aF_spot aW_comes aW_keeps aW_holds aW_goesOn : Nat) (vF_basins : Int32) (vF_spring : Int32) (vF_hour : Int32) (vF_z : Int32) (vW_kept : Int32) (vW_leaked : Int32) (vW_ranOff : Int32) (vW_uneven : Int32) (vW_keptInAll : Int32) (vW_leakedInAll : Int32) (vW_ranOffInAll : Int32) (cW_width : Nat → Int32) (cF_above : Nat → Int32) (cF_edge : Nat → Int32) (out : (Nat → Int32)) (h : f_X1_measure vF_basins cW_width cF_above cF_edge = some out) : Mv l yX1_measure wsX1_measure ({ frames := 0, cells := 0, slots := 0, locals := 0 } : Room) D (tyA cyI cyJ cyZ cyB cyO) [.ref aW, .ref aF] (w_X1_measure cyI cyJ cyZ cyB cyO aF aW aW_width aF_above aF_edge aF_kind aF_pool aF_store aF_spot aW_comes aW_keeps aW_holds aW_goesOn vF_basins vF_spring vF_hour vF_z vW_kept vW_leaked vW_ranOff vW_uneven vW_keptInAll vW_leakedInAll vW_ranOffInAll cW_width cF_above cF_edge) (w_X1_measure cyI cyJ cyZ cyB cyO aF aW aW_width aF_above aF_edge aF_kind aF_pool aF_store aF_spot aW_comes aW_keeps aW_holds aW_goesOn vF_basins vF_spring vF_hour vF_z vW_kept vW_leaked vW_ranOff vW_uneven vW_keptInAll vW_leakedInAll vW_ranOffInAll out cF_above cF_edge) := by
  refine Mv.mk (cc := cX1_measure) (maxL := 4) (own := RX1) (by decide) rfl rfl (Nat.le_of_ble_eq_true rfl) ?_
  intro p e s m args below meth c A Q F hK hP hD hA hret ls hl
  obtain ⟨hx, hb, hml, hown, hts⟩ := id F
  have hS : va_S A s.heap s.heap [] := va_S.rf
  have hl : lv_has ls 4 [(0, .ref aW), (1, .ref aF)] := hl
  have in_X2 : ∀ w ∈ wsX20, w ∈ wsX1_measure := by decide +kernel
  have in_X1 : ∀ w ∈ wsX10, w ∈ wsX1_measure := by decide +kernel
  have q1 := hts (Cond.fieldLink RX1 62 "ThirdFountain$Fountain" "basins" "I") (List.mem_of_getElem? (i := 1) rfl)
  have q2 := hts (Cond.fieldLink RX1 24 "ThirdFountain$Flow" "width" "[I") (List.mem_of_getElem? (i := 2) rfl)
  have q3 := hts (Cond.fieldLink RX1 73 "ThirdFountain$Fountain" "above" "[I") (List.mem_of_getElem? (i := 3) rfl)
  have q4 := hts (Cond.fieldLink RX1 76 "ThirdFountain$Fountain" "edge" "[I") (List.mem_of_getElem? (i := 4) rfl)
  unfold f_X1_measure at h
  refine lv_iconst (v := 0) hx hb dX1_measure_0 (by decide) ?_
  refine lv_istore_n (lv' := [(2, .int (0 : Int32)), (0, .ref aW), (1, .ref aF)]) hx hb dX1_measure_1 rfl hl (by decide) rfl (fun ls hl => ?_)
  have lp2 : ∀ (k2 : Nat) (y2 : Int32) (cW_width : Nat → Int32) (H : Heap) (locs : List Loc) (ls : Array Slot), va_P D vwCl (w_X1_measure cyI cyJ cyZ cyB cyO aF aW aW_width aF_above aF_edge aF_kind aF_pool aF_store aF_spot aW_comes aW_keeps aW_holds aW_goesOn vF_basins vF_spring vF_hour vF_z vW_kept vW_leaked vW_ranOff vW_uneven vW_keptInAll vW_leakedInAll vW_ranOffInAll cW_width cF_above cF_edge) H → va_D A (w_X1_measure cyI cyJ cyZ cyB cyO aF aW aW_width aF_above aF_edge aF_kind aF_pool aF_store aF_spot aW_comes aW_keeps aW_holds aW_goesOn vF_basins vF_spring vF_hour vF_z vW_kept vW_leaked vW_ranOff vW_uneven vW_keptInAll vW_leakedInAll vW_ranOffInAll cW_width cF_above cF_edge) → va_S A s.heap H locs → lv_has ls 4 [(2, .int y2), (0, .ref aW), (1, .ref aF)] → (f_X1_measure_L2 vF_basins cF_above cF_edge k2) (y2, cW_width) = some out → W p l e ({ frames := 0, cells := 0, slots := 0, locals := 0 } : Room) s m args below meth c H locs 0 0 Q (F0 m 2 ls []) := by
    intro k2
    induction k2 with
    | zero => intro y2 cW_width H locs ls hP hD hS hl h; cases h
    | succ k2 ih2 =>
      intro y2 cW_width H locs ls hP hD hS hl h
      have h : f_X1_measure_L2_b vF_basins cF_above cF_edge (f_X1_measure_L2 vF_basins cF_above cF_edge k2) y2 cW_width = some out := h
      unfold f_X1_measure_L2_b at h
      refine lv_iload_n hx hb dX1_measure_2 rfl (lv_at hl 0 rfl) ?_
      refine lv_aload_n hx hb dX1_measure_3 rfl (lv_at hl 2 rfl) ?_
      refine va_get (D := D) (ci := 2) (v := .int vF_basins) (C := RX2) (T := TX2) (N := 10) hx hb hts in_X2 hown hK hP 0 rfl rfl 6 (by decide) q1 (fun _ h9 => h9) rfl dX1_measure_4 ?_
      refine lv_icmp_ge (tgt := 54) hx hb dX1_measure_7 (by decide) (fun c1 => ?_) (fun c1 => ?_)
      · have h := br_pos c1 h
        obtain rfl := Option.some.inj h
        exact hret _ _ _ _ hP hD hS dX1_measure_54 
      · have h := br_neg c1 h
        refine lv_aload_n hx hb dX1_measure_10 rfl (lv_at hl 1 rfl) ?_
        refine va_get (D := D) (ci := 1) (v := .ref aW_width) (C := RX1) (T := TX1) (N := 12) hx hb hts in_X1 hown hK hP 1 rfl rfl 4 (by decide) q2 (fun _ h9 => h9) rfl dX1_measure_11 ?_
        refine lv_iload_n hx hb dX1_measure_14 rfl (lv_at hl 0 rfl) ?_
        refine lv_iconst (v := 0) hx hb dX1_measure_15 (by decide) ?_
        obtain ⟨g2, h⟩ := gd_some h
        refine va_iast hx hb hK hP hD hS 2 0 rfl rfl g2 dX1_measure_16 (fun H locs hP hD hS => ?_)
        have hP : va_P D vwCl (w_X1_measure cyI cyJ cyZ cyB cyO aF aW aW_width aF_above aF_edge aF_kind aF_pool aF_store aF_spot aW_comes aW_keeps aW_holds aW_goesOn vF_basins vF_spring vF_hour vF_z vW_kept vW_leaked vW_ranOff vW_uneven vW_keptInAll vW_leakedInAll vW_ranOffInAll (upd cW_width y2.toNatClampNeg (0 : Int32)) cF_above cF_edge) H := hP
        have hD : va_D A (w_X1_measure cyI cyJ cyZ cyB cyO aF aW aW_width aF_above aF_edge aF_kind aF_pool aF_store aF_spot aW_comes aW_keeps aW_holds aW_goesOn vF_basins vF_spring vF_hour vF_z vW_kept vW_leaked vW_ranOff vW_uneven vW_keptInAll vW_leakedInAll vW_ranOffInAll (upd cW_width y2.toNatClampNeg (0 : Int32)) cF_above cF_edge) := hD
        refine lv_aload_n hx hb dX1_measure_17 rfl (lv_at hl 2 rfl) ?_
        refine va_get (D := D) (ci := 2) (v := .ref aF_above) (C := RX2) (T := TX2) (N := 10) hx hb hts in_X2 hown hK hP 0 rfl rfl 1 (by decide) q3 (fun _ h9 => h9) rfl dX1_measure_18 ?_
        refine lv_iload_n hx hb dX1_measure_21 rfl (lv_at hl 0 rfl) ?_
        obtain ⟨g3, h⟩ := gd_some h
        refine va_iald hx hb hK hP 3 0 rfl rfl g3 dX1_measure_22 ?_
        refine lv_topi (fun z4 ez4 => ?_)
        have h := nm_at ez4 h
        refine lv_istore_n (lv' := [(3, .int z4), (2, .int y2), (0, .ref aW), (1, .ref aF)]) hx hb dX1_measure_23 rfl hl (by decide) rfl (fun ls hl => ?_)
        refine lv_iload_n hx hb dX1_measure_24 rfl (lv_at hl 0 rfl) ?_
        refine lv_if_lt (tgt := 48) hx hb dX1_measure_25 (by decide) (fun c5 => ?_) (fun c5 => ?_)
        · have h := br_pos c5 h
          refine lv_iinc (v := y2 + 1) (lv' := [(2, .int (y2 + 1)), (3, .int z4), (0, .ref aW), (1, .ref aF)]) hx hb dX1_measure_48 hl (k := 1) rfl rfl (by decide) rfl (fun ls hl => ?_)
          refine lv_goto (tgt := 2) hx hb dX1_measure_51 (by decide) ?_
          exact ih2 (y2 + 1) (upd cW_width y2.toNatClampNeg (0 : Int32)) _ _ _ hP hD hS (lv_sub hl [0, 2, 3] rfl) h
        · have h := br_neg c5 h
          refine lv_iload_n hx hb dX1_measure_28 rfl (lv_at hl 0 rfl) ?_
          refine lv_iload_n hx hb dX1_measure_29 rfl (lv_at hl 1 rfl) ?_
          refine lv_icmp_ge (tgt := 48) hx hb dX1_measure_30 (by decide) (fun c6 => ?_) (fun c6 => ?_)
          · have h := br_pos c6 h
            refine lv_iinc (v := y2 + 1) (lv' := [(2, .int (y2 + 1)), (3, .int z4), (0, .ref aW), (1, .ref aF)]) hx hb dX1_measure_48 hl (k := 1) rfl rfl (by decide) rfl (fun ls hl => ?_)
            refine lv_goto (tgt := 2) hx hb dX1_measure_51 (by decide) ?_
            exact ih2 (y2 + 1) (upd cW_width y2.toNatClampNeg (0 : Int32)) _ _ _ hP hD hS (lv_sub hl [0, 2, 3] rfl) h
          · have h := br_neg c6 h
            refine lv_aload_n hx hb dX1_measure_33 rfl (lv_at hl 2 rfl) ?_
            refine va_get (D := D) (ci := 1) (v := .ref aW_width) (C := RX1) (T := TX1) (N := 12) hx hb hts in_X1 hown hK hP 1 rfl rfl 4 (by decide) q2 (fun _ h9 => h9) rfl dX1_measure_34 ?_
            refine lv_iload_n hx hb dX1_measure_37 rfl (lv_at hl 0 rfl) ?_
            refine lv_dup2_11 hx hb dX1_measure_38 rfl rfl ?_
            obtain ⟨g7, h⟩ := gd_some h
            refine va_iald hx hb hK hP 2 0 rfl rfl g7 dX1_measure_39 ?_
            refine lv_aload_n hx hb dX1_measure_40 rfl (lv_at hl 3 rfl) ?_
            refine va_get (D := D) (ci := 2) (v := .ref aF_edge) (C := RX2) (T := TX2) (N := 10) hx hb hts in_X2 hown hK hP 0 rfl rfl 2 (by decide) q4 (fun _ h9 => h9) rfl dX1_measure_41 ?_
            refine lv_iload_n hx hb dX1_measure_44 rfl (lv_at hl 1 rfl) ?_
            obtain ⟨g8, h⟩ := gd_some h
            refine va_iald hx hb hK hP 4 0 rfl rfl g8 dX1_measure_45 ?_
            refine lv_iadd hx hb dX1_measure_46 ?_
            obtain ⟨g9, h⟩ := gd_some h
            refine va_iast hx hb hK hP hD hS 2 0 rfl rfl g9 dX1_measure_47 (fun H locs hP hD hS => ?_)
            have hP : va_P D vwCl (w_X1_measure cyI cyJ cyZ cyB cyO aF aW aW_width aF_above aF_edge aF_kind aF_pool aF_store aF_spot aW_comes aW_keeps aW_holds aW_goesOn vF_basins vF_spring vF_hour vF_z vW_kept vW_leaked vW_ranOff vW_uneven vW_keptInAll vW_leakedInAll vW_ranOffInAll (upd (upd cW_width y2.toNatClampNeg (0 : Int32)) z4.toNatClampNeg (((upd cW_width y2.toNatClampNeg (0 : Int32)) z4.toNatClampNeg) + (cF_edge y2.toNatClampNeg))) cF_above cF_edge) H := hP
            have hD : va_D A (w_X1_measure cyI cyJ cyZ cyB cyO aF aW aW_width aF_above aF_edge aF_kind aF_pool aF_store aF_spot aW_comes aW_keeps aW_holds aW_goesOn vF_basins vF_spring vF_hour vF_z vW_kept vW_leaked vW_ranOff vW_uneven vW_keptInAll vW_leakedInAll vW_ranOffInAll (upd (upd cW_width y2.toNatClampNeg (0 : Int32)) z4.toNatClampNeg (((upd cW_width y2.toNatClampNeg (0 : Int32)) z4.toNatClampNeg) + (cF_edge y2.toNatClampNeg))) cF_above cF_edge) := hD
            refine lv_iinc (v := y2 + 1) (lv' := [(2, .int (y2 + 1)), (3, .int z4), (0, .ref aW), (1, .ref aF)]) hx hb dX1_measure_48 hl (k := 1) rfl rfl (by decide) rfl (fun ls hl => ?_)
            refine lv_goto (tgt := 2) hx hb dX1_measure_51 (by decide) ?_
            exact ih2 (y2 + 1) (upd (upd cW_width y2.toNatClampNeg (0 : Int32)) z4.toNatClampNeg (((upd cW_width y2.toNatClampNeg (0 : Int32)) z4.toNatClampNeg) + (cF_edge y2.toNatClampNeg))) _ _ _ hP hD hS (lv_sub hl [0, 2, 3] rfl) h
  exact lp2 FU (0 : Int32) cW_width _ _ _ hP hD hS (lv_sub hl [0, 1, 2] rfl) h
/-! ===== X1_comingTo ===== -/
def w_X1_comingTo (cyI cyJ cyZ cyB cyO : ClassId) (aF aF_above aW aW_width aW_goesOn aF_edge aF_kind aF_pool aF_store aF_spot aW_comes aW_keeps aW_holds : Nat) (vF_basins : Int32) (vF_spring : Int32) (vF_hour : Int32) (vF_z : Int32) (cF_above : Nat → Int32) (vW_kept : Int32) (vW_leaked : Int32) (vW_ranOff : Int32) (vW_uneven : Int32) (vW_keptInAll : Int32) (vW_leakedInAll : Int32) (vW_ranOffInAll : Int32) (cW_width : Nat → Int32) (cW_goesOn : Nat → Int32) (cF_edge : Nat → Int32) : va_W := [(aF, .inr (2, [.ref aF_kind, .ref aF_above, .ref aF_edge, .ref aF_pool, .ref aF_store, .ref aF_spot, .int vF_basins, .int vF_spring, .int vF_hour, .int vF_z])), (aF_above, .inl (cyI, 10, .inl cF_above)), (aW, .inr (1, [.ref aW_comes, .ref aW_keeps, .ref aW_holds, .ref aW_goesOn, .ref aW_width, .int vW_kept, .int vW_leaked, .int vW_ranOff, .int vW_uneven, .int vW_keptInAll, .int vW_leakedInAll, .int vW_ranOffInAll])), (aW_width, .inl (cyI, 10, .inl cW_width)), (aW_goesOn, .inl (cyI, 10, .inl cW_goesOn)), (aF_edge, .inl (cyI, 10, .inl cF_edge))]
set_option maxHeartbeats 4000000 in
set_option maxRecDepth 100000 in
theorem t_X1_comingTo (l : Launch) (D : va_G) (cyI cyJ cyZ cyB cyO : ClassId) (aF aF_above aW aW_width aW_goesOn aF_edge aF_kind aF_pool aF_store aF_spot aW_comes aW_keeps aW_holds : Nat) (vF_basins : Int32) (vF_spring : Int32) (vF_hour : Int32) (vF_z : Int32) (cF_above : Nat → Int32) (vW_kept : Int32) (vW_leaked : Int32) (vW_ranOff : Int32) (vW_uneven : Int32) (vW_keptInAll : Int32) (vW_leakedInAll : Int32) (vW_ranOffInAll : Int32) (cW_width : Nat → Int32) (cW_goesOn : Nat → Int32) (cF_edge : Nat → Int32) (x2 : Int32) (out : Int32 × Int32 × Int32) (h : f_X1_comingTo x2 vF_spring cF_above vW_ranOff vW_uneven cW_width cW_goesOn cF_edge = some out) : Mi l yX1_comingTo wsX1_comingTo ({ frames := 0, cells := 0, slots := 0, locals := 0 } : Room) D (tyA cyI cyJ cyZ cyB cyO) [.ref aW, .ref aF, .int x2] (w_X1_comingTo cyI cyJ cyZ cyB cyO aF aF_above aW aW_width aW_goesOn aF_edge aF_kind aF_pool aF_store aF_spot aW_comes aW_keeps aW_holds vF_basins vF_spring vF_hour vF_z cF_above vW_kept vW_leaked vW_ranOff vW_uneven vW_keptInAll vW_leakedInAll vW_ranOffInAll cW_width cW_goesOn cF_edge) (w_X1_comingTo cyI cyJ cyZ cyB cyO aF aF_above aW aW_width aW_goesOn aF_edge aF_kind aF_pool aF_store aF_spot aW_comes aW_keeps aW_holds vF_basins vF_spring vF_hour vF_z cF_above vW_kept vW_leaked out.2.1 out.2.2 vW_keptInAll vW_leakedInAll vW_ranOffInAll cW_width cW_goesOn cF_edge) out.1 := by
  refine Mi.mk (cc := cX1_comingTo) (maxL := 6) (rt := .int) (own := RX1) (by decide) rfl rfl (Nat.le_of_ble_eq_true rfl) ?_
  intro p e s m args below meth c A Q F hK hP hD hA hret ls hl
  obtain ⟨hx, hb, hml, hown, hts⟩ := id F
  have hS : va_S A s.heap s.heap [] := va_S.rf
  have hl : lv_has ls 6 [(0, .ref aW), (1, .ref aF), (2, .int x2)] := hl
  have in_X2 : ∀ w ∈ wsX20, w ∈ wsX1_comingTo := by decide +kernel
  have in_X1 : ∀ w ∈ wsX10, w ∈ wsX1_comingTo := by decide +kernel
  have q1 := hts (Cond.fieldLink RX1 73 "ThirdFountain$Fountain" "above" "[I") (List.mem_of_getElem? (i := 1) rfl)
  have q2 := hts (Cond.fieldLink RX1 79 "ThirdFountain$Fountain" "spring" "I") (List.mem_of_getElem? (i := 2) rfl)
  have q3 := hts (Cond.fieldLink RX1 24 "ThirdFountain$Flow" "width" "[I") (List.mem_of_getElem? (i := 3) rfl)
  have q4 := hts (Cond.fieldLink RX1 21 "ThirdFountain$Flow" "goesOn" "[I") (List.mem_of_getElem? (i := 4) rfl)
  have q5 := hts (Cond.fieldLink RX1 76 "ThirdFountain$Fountain" "edge" "[I") (List.mem_of_getElem? (i := 5) rfl)
  have q6 := hts (Cond.fieldLink RX1 53 "ThirdFountain$Flow" "ranOff" "I") (List.mem_of_getElem? (i := 6) rfl)
  have q7 := hts (Cond.fieldLink RX1 56 "ThirdFountain$Flow" "uneven" "I") (List.mem_of_getElem? (i := 7) rfl)
  unfold f_X1_comingTo at h
  refine lv_aload_n hx hb dX1_comingTo_0 rfl (lv_at hl 1 rfl) ?_
  refine va_get (D := D) (ci := 2) (v := .ref aF_above) (C := RX2) (T := TX2) (N := 10) hx hb hts in_X2 hown hK hP 0 rfl rfl 1 (by decide) q1 (fun _ h9 => h9) rfl dX1_comingTo_1 ?_
  refine lv_iload_n hx hb dX1_comingTo_4 rfl (lv_at hl 2 rfl) ?_
  obtain ⟨g1, h⟩ := gd_some h
  refine va_iald hx hb hK hP 1 0 rfl rfl g1 dX1_comingTo_5 ?_
  refine lv_topi (fun z2 ez2 => ?_)
  have h := nm_at ez2 h
  refine lv_istore_n (lv' := [(3, .int z2), (0, .ref aW), (1, .ref aF), (2, .int x2)]) hx hb dX1_comingTo_6 rfl hl (by decide) rfl (fun ls hl => ?_)
  refine lv_iload_n hx hb dX1_comingTo_7 rfl (lv_at hl 0 rfl) ?_
  refine lv_if_lt (tgt := 16) hx hb dX1_comingTo_8 (by decide) (fun c3 => ?_) (fun c3 => ?_)
  · have h := br_pos c3 h
    refine lv_aload_n hx hb dX1_comingTo_16 rfl (lv_at hl 2 rfl) ?_
    refine va_get (D := D) (ci := 2) (v := .int vF_spring) (C := RX2) (T := TX2) (N := 10) hx hb hts in_X2 hown hK hP 0 rfl rfl 7 (by decide) q2 (fun _ h9 => h9) rfl dX1_comingTo_17 ?_
    obtain rfl := Option.some.inj h
    exact hret _ _ _ _ _ hP hD hS dX1_comingTo_20 rfl rfl
  · have h := br_neg c3 h
    refine lv_iload_n hx hb dX1_comingTo_11 rfl (lv_at hl 0 rfl) ?_
    refine lv_iload_n hx hb dX1_comingTo_12 rfl (lv_at hl 3 rfl) ?_
    refine lv_icmp_lt (tgt := 21) hx hb dX1_comingTo_13 (by decide) (fun c4 => ?_) (fun c4 => ?_)
    · have h := br_pos c4 h
      refine lv_aload_n hx hb dX1_comingTo_21 rfl (lv_at hl 1 rfl) ?_
      refine va_get (D := D) (ci := 1) (v := .ref aW_width) (C := RX1) (T := TX1) (N := 12) hx hb hts in_X1 hown hK hP 2 rfl rfl 4 (by decide) q3 (fun _ h9 => h9) rfl dX1_comingTo_22 ?_
      refine lv_iload_n hx hb dX1_comingTo_25 rfl (lv_at hl 0 rfl) ?_
      obtain ⟨g5, h⟩ := gd_some h
      refine va_iald hx hb hK hP 3 0 rfl rfl g5 dX1_comingTo_26 ?_
      refine lv_topi (fun z6 ez6 => ?_)
      have h := nm_at ez6 h
      refine lv_istore (lv' := [(4, .int z6), (3, .int z2), (0, .ref aW), (1, .ref aF), (2, .int x2)]) hx hb dX1_comingTo_27 hl (by decide) rfl (fun ls hl => ?_)
      refine lv_iload hx hb dX1_comingTo_29 (lv_at hl 0 rfl) ?_
      refine lv_if_gt (tgt := 36) hx hb dX1_comingTo_31 (by decide) (fun c7 => ?_) (fun c7 => ?_)
      · have h := br_pos c7 h
        refine lv_aload_n hx hb dX1_comingTo_36 rfl (lv_at hl 2 rfl) ?_
        refine va_get (D := D) (ci := 1) (v := .ref aW_goesOn) (C := RX1) (T := TX1) (N := 12) hx hb hts in_X1 hown hK hP 2 rfl rfl 3 (by decide) q4 (fun _ h9 => h9) rfl dX1_comingTo_37 ?_
        refine lv_iload_n hx hb dX1_comingTo_40 rfl (lv_at hl 1 rfl) ?_
        obtain ⟨g8, h⟩ := gd_some h
        refine va_iald hx hb hK hP 4 0 rfl rfl g8 dX1_comingTo_41 ?_
        refine lv_aload_n hx hb dX1_comingTo_42 rfl (lv_at hl 3 rfl) ?_
        refine va_get (D := D) (ci := 2) (v := .ref aF_edge) (C := RX2) (T := TX2) (N := 10) hx hb hts in_X2 hown hK hP 0 rfl rfl 2 (by decide) q5 (fun _ h9 => h9) rfl dX1_comingTo_43 ?_
        refine lv_iload_n hx hb dX1_comingTo_46 rfl (lv_at hl 4 rfl) ?_
        obtain ⟨g9, h⟩ := gd_some h
        refine va_iald hx hb hK hP 5 0 rfl rfl g9 dX1_comingTo_47 ?_
        refine lv_imul hx hb dX1_comingTo_48 ?_
        refine lv_iload hx hb dX1_comingTo_49 (lv_at hl 0 rfl) ?_
        obtain ⟨g10, h⟩ := gd_some h
        refine lv_idiv hx hb dX1_comingTo_51 g10 ?_
        refine lv_topi (fun z11 ez11 => ?_)
        have h := nm_at ez11 h
        refine lv_istore (lv' := [(5, .int z11), (4, .int z6), (3, .int z2), (0, .ref aW), (1, .ref aF), (2, .int x2)]) hx hb dX1_comingTo_52 hl (by decide) rfl (fun ls hl => ?_)
        refine lv_aload_n hx hb dX1_comingTo_54 rfl (lv_at hl 3 rfl) ?_
        refine lv_dup hx hb dX1_comingTo_55 rfl ?_
        refine va_get (D := D) (ci := 1) (v := .int vW_ranOff) (C := RX1) (T := TX1) (N := 12) hx hb hts in_X1 hown hK hP 2 rfl rfl 7 (by decide) q6 (fun _ h9 => h9) rfl dX1_comingTo_56 ?_
        refine lv_iload hx hb dX1_comingTo_59 (lv_at hl 0 rfl) ?_
        refine lv_isub hx hb dX1_comingTo_61 ?_
        refine va_put (D := D) (ci := 1) (v := .int (vW_ranOff - z11)) (ty := .int) (C := RX1) (T := TX1) (N := 12) hx hb hts in_X1 tyX1 tyX1_ok nmX1 hown hK hP hD hS 2 rfl rfl 7 (by decide) q6 (fun _ h9 => h9) rfl (by decide +kernel) rfl rfl (Nat.le_of_ble_eq_true rfl) dX1_comingTo_62 (fun H locs hP hD hS => ?_)
        have hP : va_P D vwCl (w_X1_comingTo cyI cyJ cyZ cyB cyO aF aF_above aW aW_width aW_goesOn aF_edge aF_kind aF_pool aF_store aF_spot aW_comes aW_keeps aW_holds vF_basins vF_spring vF_hour vF_z cF_above vW_kept vW_leaked (vW_ranOff - z11) vW_uneven vW_keptInAll vW_leakedInAll vW_ranOffInAll cW_width cW_goesOn cF_edge) H := hP
        have hD : va_D A (w_X1_comingTo cyI cyJ cyZ cyB cyO aF aF_above aW aW_width aW_goesOn aF_edge aF_kind aF_pool aF_store aF_spot aW_comes aW_keeps aW_holds vF_basins vF_spring vF_hour vF_z cF_above vW_kept vW_leaked (vW_ranOff - z11) vW_uneven vW_keptInAll vW_leakedInAll vW_ranOffInAll cW_width cW_goesOn cF_edge) := hD
        refine lv_aload_n hx hb dX1_comingTo_65 rfl (lv_at hl 3 rfl) ?_
        refine lv_dup hx hb dX1_comingTo_66 rfl ?_
        refine va_get (D := D) (ci := 1) (v := .int vW_uneven) (C := RX1) (T := TX1) (N := 12) hx hb hts in_X1 hown hK hP 2 rfl rfl 8 (by decide) q7 (fun _ h9 => h9) rfl dX1_comingTo_67 ?_
        refine lv_iload hx hb dX1_comingTo_70 (lv_at hl 0 rfl) ?_
        refine lv_isub hx hb dX1_comingTo_72 ?_
        refine va_put (D := D) (ci := 1) (v := .int (vW_uneven - z11)) (ty := .int) (C := RX1) (T := TX1) (N := 12) hx hb hts in_X1 tyX1 tyX1_ok nmX1 hown hK hP hD hS 2 rfl rfl 8 (by decide) q7 (fun _ h9 => h9) rfl (by decide +kernel) rfl rfl (Nat.le_of_ble_eq_true rfl) dX1_comingTo_73 (fun H locs hP hD hS => ?_)
        have hP : va_P D vwCl (w_X1_comingTo cyI cyJ cyZ cyB cyO aF aF_above aW aW_width aW_goesOn aF_edge aF_kind aF_pool aF_store aF_spot aW_comes aW_keeps aW_holds vF_basins vF_spring vF_hour vF_z cF_above vW_kept vW_leaked (vW_ranOff - z11) (vW_uneven - z11) vW_keptInAll vW_leakedInAll vW_ranOffInAll cW_width cW_goesOn cF_edge) H := hP
        have hD : va_D A (w_X1_comingTo cyI cyJ cyZ cyB cyO aF aF_above aW aW_width aW_goesOn aF_edge aF_kind aF_pool aF_store aF_spot aW_comes aW_keeps aW_holds vF_basins vF_spring vF_hour vF_z cF_above vW_kept vW_leaked (vW_ranOff - z11) (vW_uneven - z11) vW_keptInAll vW_leakedInAll vW_ranOffInAll cW_width cW_goesOn cF_edge) := hD
        refine lv_iload hx hb dX1_comingTo_76 (lv_at hl 0 rfl) ?_
        obtain rfl := Option.some.inj h
        exact hret _ _ _ _ _ hP hD hS dX1_comingTo_78 rfl rfl
      · have h := br_neg c7 h
        refine lv_iconst (v := 0) hx hb dX1_comingTo_34 (by decide) ?_
        obtain rfl := Option.some.inj h
        exact hret _ _ _ _ _ hP hD hS dX1_comingTo_35 rfl rfl
    · have h := br_neg c4 h
      refine lv_aload_n hx hb dX1_comingTo_16 rfl (lv_at hl 2 rfl) ?_
      refine va_get (D := D) (ci := 2) (v := .int vF_spring) (C := RX2) (T := TX2) (N := 10) hx hb hts in_X2 hown hK hP 0 rfl rfl 7 (by decide) q2 (fun _ h9 => h9) rfl dX1_comingTo_17 ?_
      obtain rfl := Option.some.inj h
      exact hret _ _ _ _ _ hP hD hS dX1_comingTo_20 rfl rfl
/-! ===== X3_tenthsLeaked ===== -/
def w_X3_tenthsLeaked (cyI cyJ cyZ cyB cyO : ClassId) : va_W := []
set_option maxHeartbeats 4000000 in
set_option maxRecDepth 100000 in
theorem t_X3_tenthsLeaked (l : Launch) (D : va_G) (cyI cyJ cyZ cyB cyO : ClassId) (x0 : Int32) (out : Int32) (h : f_X3_tenthsLeaked x0 = some out) : Mi l yX3_tenthsLeaked wsX3_tenthsLeaked ({ frames := 0, cells := 0, slots := 0, locals := 0 } : Room) D (tyA cyI cyJ cyZ cyB cyO) [.int x0] (w_X3_tenthsLeaked cyI cyJ cyZ cyB cyO ) (w_X3_tenthsLeaked cyI cyJ cyZ cyB cyO ) out := by
  refine Mi.mk (cc := cX3_tenthsLeaked) (maxL := 1) (rt := .int) (own := RX3) (by decide) rfl rfl (Nat.le_of_ble_eq_true rfl) ?_
  intro p e s m args below meth c A Q F hK hP hD hA hret ls hl
  obtain ⟨hx, hb, hml, hown, hts⟩ := id F
  have hS : va_S A s.heap s.heap [] := va_S.rf
  have hl : lv_has ls 1 [(0, .int x0)] := hl
  unfold f_X3_tenthsLeaked at h
  refine lv_iload_n hx hb dX3_tenthsLeaked_0 rfl (lv_at hl 0 rfl) ?_
  by_cases c1 : x0 = 2
  · have h := br_pos c1 h
    refine lv_lookup (off := 27) (tgt := 28) hx hb dX3_tenthsLeaked_1 (by decide) (by rw [c1]; rfl) (by decide) ?_
    refine lv_iconst (v := 1) hx hb dX3_tenthsLeaked_28 (by decide) ?_
    obtain rfl := Option.some.inj h
    exact hret _ _ _ _ _ hP hD hS dX3_tenthsLeaked_29 rfl rfl
  have h := br_neg c1 h
  by_cases c2 : x0 = 4
  · have h := br_pos c2 h
    refine lv_lookup (off := 29) (tgt := 30) hx hb dX3_tenthsLeaked_1 (by decide) (by rw [c2]; rfl) (by decide) ?_
    refine lv_iconst (v := 2) hx hb dX3_tenthsLeaked_30 (by decide) ?_
    obtain rfl := Option.some.inj h
    exact hret _ _ _ _ _ hP hD hS dX3_tenthsLeaked_31 rfl rfl
  have h := br_neg c2 h
  refine lv_lookup (off := 31) (tgt := 32) hx hb dX3_tenthsLeaked_1 (by decide) (lk_1 c1 (lk_1 c2 lk_0)) (by decide) ?_
  refine lv_iconst (v := 0) hx hb dX3_tenthsLeaked_32 (by decide) ?_
  obtain rfl := Option.some.inj h
  exact hret _ _ _ _ _ hP hD hS dX3_tenthsLeaked_33 rfl rfl
/-! ===== X3_leaks ===== -/
def w_X3_leaks (cyI cyJ cyZ cyB cyO : ClassId) : va_W := []
set_option maxHeartbeats 4000000 in
set_option maxRecDepth 100000 in
theorem t_X3_leaks (l : Launch) (D : va_G) (cyI cyJ cyZ cyB cyO : ClassId) (x0 : Int32) (x1 : Int32) (out : Int32) (h : f_X3_leaks x0 x1 = some out) : Mi l yX3_leaks wsX3_leaks ({ frames := 1, cells := 0, slots := 0, locals := 20 } : Room) D (tyA cyI cyJ cyZ cyB cyO) [.int x0, .int x1] (w_X3_leaks cyI cyJ cyZ cyB cyO ) (w_X3_leaks cyI cyJ cyZ cyB cyO ) out := by
  refine Mi.mk (cc := cX3_leaks) (maxL := 2) (rt := .int) (own := RX3) (by decide) rfl rfl (Nat.le_of_ble_eq_true rfl) ?_
  intro p e s m args below meth c A Q F hK hP hD hA hret ls hl
  obtain ⟨hx, hb, hml, hown, hts⟩ := id F
  have hS : va_S A s.heap s.heap [] := va_S.rf
  have hl : lv_has ls 2 [(0, .int x0), (1, .int x1)] := hl
  have q1 := hts (Cond.methodLink RX3 15 yX3_tenthsLeaked) (List.mem_of_getElem? (i := 1) rfl)
  unfold f_X3_leaks at h
  refine lv_iload_n hx hb dX3_leaks_0 rfl (lv_at hl 0 rfl) ?_
  obtain ⟨u1, hu1, h⟩ := bd_some h
  refine cl_Si (rest := []) F hK hP hD hS hA hl (t_X3_tenthsLeaked l D cyI cyJ cyZ cyB cyO x0 u1 hu1) (va_cwS 1 hts gX3_leaks_X3_tenthsLeaked rfl rfl rfl (by decide +kernel) ⟨Nat.le_of_ble_eq_true rfl, Nat.le_of_ble_eq_true rfl⟩) [] [] [] (w_X3_leaks cyI cyJ cyZ cyB cyO ) rfl rfl rfl (by decide +kernel) rfl rfl (Nat.le_of_ble_eq_true rfl) ⟨Nat.zero_le _, Nat.zero_le _⟩ dX3_leaks_1 (fun H locs hP hD hS => ?_)
  refine lv_iload_n hx hb dX3_leaks_4 rfl (lv_at hl 1 rfl) ?_
  refine lv_bipush (v := 10) hx hb dX3_leaks_5 (by decide) ?_
  refine lv_idiv hx hb dX3_leaks_7 (by decide) ?_
  refine lv_imul hx hb dX3_leaks_8 ?_
  obtain rfl := Option.some.inj h
  exact hret _ _ _ _ _ hP hD hS dX3_leaks_9 rfl rfl
/-! ===== X3_keeps ===== -/
def w_X3_keeps (cyI cyJ cyZ cyB cyO : ClassId) : va_W := []
set_option maxHeartbeats 4000000 in
set_option maxRecDepth 100000 in
theorem t_X3_keeps (l : Launch) (D : va_G) (cyI cyJ cyZ cyB cyO : ClassId) (x0 : Int32) (x1 : Int32) (out : Int32) (h : f_X3_keeps x0 x1 = some out) : Mi l yX3_keeps wsX3_keeps ({ frames := 0, cells := 0, slots := 0, locals := 0 } : Room) D (tyA cyI cyJ cyZ cyB cyO) [.int x0, .int x1] (w_X3_keeps cyI cyJ cyZ cyB cyO ) (w_X3_keeps cyI cyJ cyZ cyB cyO ) out := by
  refine Mi.mk (cc := cX3_keeps) (maxL := 2) (rt := .int) (own := RX3) (by decide) rfl rfl (Nat.le_of_ble_eq_true rfl) ?_
  intro p e s m args below meth c A Q F hK hP hD hA hret ls hl
  obtain ⟨hx, hb, hml, hown, hts⟩ := id F
  have hS : va_S A s.heap s.heap [] := va_S.rf
  have hl : lv_has ls 2 [(0, .int x0), (1, .int x1)] := hl
  unfold f_X3_keeps at h
  refine lv_iload_n hx hb dX3_keeps_0 rfl (lv_at hl 0 rfl) ?_
  by_cases c1 : x0 = 1
  · have h := br_pos c1 h
    refine lv_lookup (off := 27) (tgt := 28) hx hb dX3_keeps_1 (by decide) (by rw [c1]; rfl) (by decide) ?_
    refine lv_iconst (v := 2) hx hb dX3_keeps_28 (by decide) ?_
    refine lv_iload_n hx hb dX3_keeps_29 rfl (lv_at hl 1 rfl) ?_
    refine lv_imul hx hb dX3_keeps_30 ?_
    refine lv_iconst (v := 5) hx hb dX3_keeps_31 (by decide) ?_
    refine lv_idiv hx hb dX3_keeps_32 (by decide) ?_
    obtain rfl := Option.some.inj h
    exact hret _ _ _ _ _ hP hD hS dX3_keeps_33 rfl rfl
  have h := br_neg c1 h
  by_cases c2 : x0 = 3
  · have h := br_pos c2 h
    refine lv_lookup (off := 33) (tgt := 34) hx hb dX3_keeps_1 (by decide) (by rw [c2]; rfl) (by decide) ?_
    refine lv_iconst (v := 0) hx hb dX3_keeps_34 (by decide) ?_
    obtain rfl := Option.some.inj h
    exact hret _ _ _ _ _ hP hD hS dX3_keeps_35 rfl rfl
  have h := br_neg c2 h
  refine lv_lookup (off := 35) (tgt := 36) hx hb dX3_keeps_1 (by decide) (lk_1 c1 (lk_1 c2 lk_0)) (by decide) ?_
  refine lv_iload_n hx hb dX3_keeps_36 rfl (lv_at hl 1 rfl) ?_
  refine lv_iconst (v := 3) hx hb dX3_keeps_37 (by decide) ?_
  refine lv_idiv hx hb dX3_keeps_38 (by decide) ?_
  obtain rfl := Option.some.inj h
  exact hret _ _ _ _ _ hP hD hS dX3_keeps_39 rfl rfl
/-! ===== X3_holds ===== -/
def w_X3_holds (cyI cyJ cyZ cyB cyO : ClassId) : va_W := []
set_option maxHeartbeats 4000000 in
set_option maxRecDepth 100000 in
theorem t_X3_holds (l : Launch) (D : va_G) (cyI cyJ cyZ cyB cyO : ClassId) (x0 : Int32) (x1 : Int32) (x2 : Int32) (out : Int32) (h : f_X3_holds x0 x1 x2 = some out) : Mi l yX3_holds wsX3_holds ({ frames := 1, cells := 0, slots := 0, locals := 21 } : Room) D (tyA cyI cyJ cyZ cyB cyO) [.int x0, .int x1, .int x2] (w_X3_holds cyI cyJ cyZ cyB cyO ) (w_X3_holds cyI cyJ cyZ cyB cyO ) out := by
  refine Mi.mk (cc := cX3_holds) (maxL := 3) (rt := .int) (own := RX3) (by decide) rfl rfl (Nat.le_of_ble_eq_true rfl) ?_
  intro p e s m args below meth c A Q F hK hP hD hA hret ls hl
  obtain ⟨hx, hb, hml, hown, hts⟩ := id F
  have hS : va_S A s.heap s.heap [] := va_S.rf
  have hl : lv_has ls 3 [(0, .int x0), (1, .int x1), (2, .int x2)] := hl
  have q1 := hts (Cond.methodLink RX3 18 Lib.Math.min.name) (List.mem_of_getElem? (i := 1) rfl)
  have q2 := hts (Cond.static Lib.Math.min.name) (List.mem_of_getElem? (i := 2) rfl)
  have q3 := hts (Cond.initialized "java/lang/Math") (List.mem_of_getElem? (i := 3) rfl)
  have q4 := hts (Cond.code Lib.Math.min.name Lib.Math.min.code 2 (some .int)) (List.mem_of_getElem? (i := 4) rfl)
  unfold f_X3_holds at h
  refine lv_iload_n hx hb dX3_holds_0 rfl (lv_at hl 0 rfl) ?_
  by_cases c1 : x0 = 5
  · have h := br_pos c1 h
    refine lv_lookup (off := 46) (tgt := 47) hx hb dX3_holds_1 (by decide) (by rw [c1]; rfl) (by decide) ?_
    refine lv_bipush (v := 30) hx hb dX3_holds_47 (by decide) ?_
    refine lv_iload_n hx hb dX3_holds_49 rfl (lv_at hl 2 rfl) ?_
    refine lv_isub hx hb dX3_holds_50 ?_
    refine lv_iload_n hx hb dX3_holds_51 rfl (lv_at hl 1 rfl) ?_
    refine va_mmin hx hb (hml.trans hl.1.symm) hown q1 q2 q3 q4 (Nat.le_of_ble_eq_true rfl) (Nat.le_of_ble_eq_true rfl) (Nat.le_refl 0) (Nat.le_refl 0) dX3_holds_52 ?_
    obtain rfl := Option.some.inj h
    exact hret _ _ _ _ _ hP hD hS dX3_holds_55 rfl rfl
  have h := br_neg c1 h
  by_cases c2 : x0 = 6
  · have h := br_pos c2 h
    refine lv_lookup (off := 27) (tgt := 28) hx hb dX3_holds_1 (by decide) (by rw [c2]; rfl) (by decide) ?_
    refine lv_iload_n hx hb dX3_holds_28 rfl (lv_at hl 1 rfl) ?_
    refine lv_bipush (v := 100) hx hb dX3_holds_29 (by decide) ?_
    refine lv_icmp_le (tgt := 38) hx hb dX3_holds_31 (by decide) (fun c3 => ?_) (fun c3 => ?_)
    · have h := br_pos c3 h
      refine lv_bipush (v := 30) hx hb dX3_holds_38 (by decide) ?_
      refine lv_iload_n hx hb dX3_holds_40 rfl (lv_at hl 2 rfl) ?_
      refine lv_isub hx hb dX3_holds_41 ?_
      refine lv_iload_n hx hb dX3_holds_42 rfl (lv_at hl 1 rfl) ?_
      refine va_mmin hx hb (hml.trans hl.1.symm) hown q1 q2 q3 q4 (Nat.le_of_ble_eq_true rfl) (Nat.le_of_ble_eq_true rfl) (Nat.le_refl 0) (Nat.le_refl 0) dX3_holds_43 ?_
      obtain rfl := Option.some.inj h
      exact hret _ _ _ _ _ hP hD hS dX3_holds_46 rfl rfl
    · have h := br_neg c3 h
      refine lv_iconst (v := 0) hx hb dX3_holds_34 (by decide) ?_
      refine lv_goto (tgt := 46) hx hb dX3_holds_35 (by decide) ?_
      obtain rfl := Option.some.inj h
      exact hret _ _ _ _ _ hP hD hS dX3_holds_46 rfl rfl
  have h := br_neg c2 h
  refine lv_lookup (off := 55) (tgt := 56) hx hb dX3_holds_1 (by decide) (lk_1 c1 (lk_1 c2 lk_0)) (by decide) ?_
  refine lv_iconst (v := 0) hx hb dX3_holds_56 (by decide) ?_
  obtain rfl := Option.some.inj h
  exact hret _ _ _ _ _ hP hD hS dX3_holds_57 rfl rfl
/-! ===== X1_divide ===== -/
def w_X1_divide (cyI cyJ cyZ cyB cyO : ClassId) (aF aF_kind aW aW_comes aW_keeps aF_pool aW_holds aW_goesOn aW_width aF_above aF_edge aF_store aF_spot : Nat) (vF_basins : Int32) (vF_spring : Int32) (vF_hour : Int32) (vF_z : Int32) (cF_kind : Nat → Int32) (vW_kept : Int32) (vW_leaked : Int32) (vW_ranOff : Int32) (vW_uneven : Int32) (vW_keptInAll : Int32) (vW_leakedInAll : Int32) (vW_ranOffInAll : Int32) (cW_comes : Nat → Int32) (cW_keeps : Nat → Int32) (cF_pool : Nat → Int32) (cW_holds : Nat → Int32) (cW_goesOn : Nat → Int32) (cW_width : Nat → Int32) : va_W := [(aF, .inr (2, [.ref aF_kind, .ref aF_above, .ref aF_edge, .ref aF_pool, .ref aF_store, .ref aF_spot, .int vF_basins, .int vF_spring, .int vF_hour, .int vF_z])), (aF_kind, .inl (cyI, 10, .inl cF_kind)), (aW, .inr (1, [.ref aW_comes, .ref aW_keeps, .ref aW_holds, .ref aW_goesOn, .ref aW_width, .int vW_kept, .int vW_leaked, .int vW_ranOff, .int vW_uneven, .int vW_keptInAll, .int vW_leakedInAll, .int vW_ranOffInAll])), (aW_comes, .inl (cyI, 10, .inl cW_comes)), (aW_keeps, .inl (cyI, 10, .inl cW_keeps)), (aF_pool, .inl (cyI, 10, .inl cF_pool)), (aW_holds, .inl (cyI, 10, .inl cW_holds)), (aW_goesOn, .inl (cyI, 10, .inl cW_goesOn)), (aW_width, .inl (cyI, 10, .inl cW_width))]
set_option maxHeartbeats 4000000 in
set_option maxRecDepth 100000 in
theorem t_X1_divide (l : Launch) (D : va_G) (cyI cyJ cyZ cyB cyO : ClassId) (aF aF_kind aW aW_comes aW_keeps aF_pool aW_holds aW_goesOn aW_width aF_above aF_edge aF_store aF_spot : Nat) (vF_basins : Int32) (vF_spring : Int32) (vF_hour : Int32) (vF_z : Int32) (cF_kind : Nat → Int32) (vW_kept : Int32) (vW_leaked : Int32) (vW_ranOff : Int32) (vW_uneven : Int32) (vW_keptInAll : Int32) (vW_leakedInAll : Int32) (vW_ranOffInAll : Int32) (cW_comes : Nat → Int32) (cW_keeps : Nat → Int32) (cF_pool : Nat → Int32) (cW_holds : Nat → Int32) (cW_goesOn : Nat → Int32) (cW_width : Nat → Int32) (x2 : Int32) (out : Int32 × Int32 × Int32 × Int32 × (Nat → Int32) × (Nat → Int32) × (Nat → Int32)) (h : f_X1_divide x2 cF_kind vW_kept vW_leaked vW_ranOff vW_uneven cW_comes cW_keeps cF_pool cW_holds cW_goesOn cW_width = some out) : Mv l yX1_divide wsX1_divide ({ frames := 2, cells := 0, slots := 0, locals := 43 } : Room) D (tyA cyI cyJ cyZ cyB cyO) [.ref aW, .ref aF, .int x2] (w_X1_divide cyI cyJ cyZ cyB cyO aF aF_kind aW aW_comes aW_keeps aF_pool aW_holds aW_goesOn aW_width aF_above aF_edge aF_store aF_spot vF_basins vF_spring vF_hour vF_z cF_kind vW_kept vW_leaked vW_ranOff vW_uneven vW_keptInAll vW_leakedInAll vW_ranOffInAll cW_comes cW_keeps cF_pool cW_holds cW_goesOn cW_width) (w_X1_divide cyI cyJ cyZ cyB cyO aF aF_kind aW aW_comes aW_keeps aF_pool aW_holds aW_goesOn aW_width aF_above aF_edge aF_store aF_spot vF_basins vF_spring vF_hour vF_z cF_kind out.1 out.2.1 out.2.2.1 out.2.2.2.1 vW_keptInAll vW_leakedInAll vW_ranOffInAll cW_comes out.2.2.2.2.1 cF_pool out.2.2.2.2.2.1 out.2.2.2.2.2.2 cW_width) := by
  refine Mv.mk (cc := cX1_divide) (maxL := 6) (own := RX1) (by decide) rfl rfl (Nat.le_of_ble_eq_true rfl) ?_
  intro p e s m args below meth c A Q F hK hP hD hA hret ls hl
  obtain ⟨hx, hb, hml, hown, hts⟩ := id F
  have hS : va_S A s.heap s.heap [] := va_S.rf
  have hl : lv_has ls 6 [(0, .ref aW), (1, .ref aF), (2, .int x2)] := hl
  have in_X2 : ∀ w ∈ wsX20, w ∈ wsX1_divide := by decide +kernel
  have in_X1 : ∀ w ∈ wsX10, w ∈ wsX1_divide := by decide +kernel
  have q1 := hts (Cond.fieldLink RX1 82 "ThirdFountain$Fountain" "kind" "[I") (List.mem_of_getElem? (i := 1) rfl)
  have q2 := hts (Cond.fieldLink RX1 9 "ThirdFountain$Flow" "comes" "[I") (List.mem_of_getElem? (i := 2) rfl)
  have q12 := hts (Cond.methodLink RX1 85 yX3_leaks) (List.mem_of_getElem? (i := 12) rfl)
  have q3 := hts (Cond.fieldLink RX1 15 "ThirdFountain$Flow" "keeps" "[I") (List.mem_of_getElem? (i := 3) rfl)
  have q19 := hts (Cond.methodLink RX1 91 yX3_keeps) (List.mem_of_getElem? (i := 19) rfl)
  have q4 := hts (Cond.fieldLink RX1 18 "ThirdFountain$Flow" "holds" "[I") (List.mem_of_getElem? (i := 4) rfl)
  have q5 := hts (Cond.fieldLink RX1 93 "ThirdFountain$Fountain" "pool" "[I") (List.mem_of_getElem? (i := 5) rfl)
  have q22 := hts (Cond.methodLink RX1 96 yX3_holds) (List.mem_of_getElem? (i := 22) rfl)
  have q6 := hts (Cond.fieldLink RX1 21 "ThirdFountain$Flow" "goesOn" "[I") (List.mem_of_getElem? (i := 6) rfl)
  have q7 := hts (Cond.fieldLink RX1 50 "ThirdFountain$Flow" "leaked" "I") (List.mem_of_getElem? (i := 7) rfl)
  have q8 := hts (Cond.fieldLink RX1 47 "ThirdFountain$Flow" "kept" "I") (List.mem_of_getElem? (i := 8) rfl)
  have q9 := hts (Cond.fieldLink RX1 53 "ThirdFountain$Flow" "ranOff" "I") (List.mem_of_getElem? (i := 9) rfl)
  have q10 := hts (Cond.fieldLink RX1 24 "ThirdFountain$Flow" "width" "[I") (List.mem_of_getElem? (i := 10) rfl)
  have q11 := hts (Cond.fieldLink RX1 56 "ThirdFountain$Flow" "uneven" "I") (List.mem_of_getElem? (i := 11) rfl)
  unfold f_X1_divide at h
  refine lv_aload_n hx hb dX1_divide_0 rfl (lv_at hl 1 rfl) ?_
  refine va_get (D := D) (ci := 2) (v := .ref aF_kind) (C := RX2) (T := TX2) (N := 10) hx hb hts in_X2 hown hK hP 0 rfl rfl 0 (by decide) q1 (fun _ h9 => h9) rfl dX1_divide_1 ?_
  refine lv_iload_n hx hb dX1_divide_4 rfl (lv_at hl 2 rfl) ?_
  obtain ⟨g1, h⟩ := gd_some h
  refine va_iald hx hb hK hP 1 0 rfl rfl g1 dX1_divide_5 ?_
  refine lv_topi (fun z2 ez2 => ?_)
  have h := nm_at ez2 h
  refine lv_istore_n (lv' := [(3, .int z2), (0, .ref aW), (1, .ref aF), (2, .int x2)]) hx hb dX1_divide_6 rfl hl (by decide) rfl (fun ls hl => ?_)
  refine lv_iload_n hx hb dX1_divide_7 rfl (lv_at hl 0 rfl) ?_
  refine lv_aload_n hx hb dX1_divide_8 rfl (lv_at hl 1 rfl) ?_
  refine va_get (D := D) (ci := 1) (v := .ref aW_comes) (C := RX1) (T := TX1) (N := 12) hx hb hts in_X1 hown hK hP 2 rfl rfl 0 (by decide) q2 (fun _ h9 => h9) rfl dX1_divide_9 ?_
  refine lv_iload_n hx hb dX1_divide_12 rfl (lv_at hl 3 rfl) ?_
  obtain ⟨g3, h⟩ := gd_some h
  refine va_iald hx hb hK hP 3 0 rfl rfl g3 dX1_divide_13 ?_
  obtain ⟨u4, hu4, h⟩ := bd_some h
  refine cl_Si (rest := []) F hK hP hD hS hA hl (t_X3_leaks l D cyI cyJ cyZ cyB cyO z2 (cW_comes x2.toNatClampNeg) u4 hu4) (va_cwS 2 hts gX1_divide_X3_leaks rfl rfl rfl (by decide +kernel) ⟨Nat.le_of_ble_eq_true rfl, Nat.le_of_ble_eq_true rfl⟩) [] [0, 0, 0, 0, 0, 0, 0, 0, 0] [] (w_X1_divide cyI cyJ cyZ cyB cyO aF aF_kind aW aW_comes aW_keeps aF_pool aW_holds aW_goesOn aW_width aF_above aF_edge aF_store aF_spot vF_basins vF_spring vF_hour vF_z cF_kind vW_kept vW_leaked vW_ranOff vW_uneven vW_keptInAll vW_leakedInAll vW_ranOffInAll cW_comes cW_keeps cF_pool cW_holds cW_goesOn cW_width) rfl rfl rfl (by decide +kernel) rfl rfl (Nat.le_of_ble_eq_true rfl) ⟨Nat.zero_le _, Nat.zero_le _⟩ dX1_divide_14 (fun H locs hP hD hS => ?_)
  refine lv_istore (lv' := [(4, .int u4), (3, .int z2), (0, .ref aW), (1, .ref aF), (2, .int x2)]) hx hb dX1_divide_17 hl (by decide) rfl (fun ls hl => ?_)
  refine lv_aload_n hx hb dX1_divide_19 rfl (lv_at hl 2 rfl) ?_
  refine va_get (D := D) (ci := 1) (v := .ref aW_comes) (C := RX1) (T := TX1) (N := 12) hx hb hts in_X1 hown hK hP 2 rfl rfl 0 (by decide) q2 (fun _ h9 => h9) rfl dX1_divide_20 ?_
  refine lv_iload_n hx hb dX1_divide_23 rfl (lv_at hl 4 rfl) ?_
  obtain ⟨g5, h⟩ := gd_some h
  refine va_iald hx hb hK hP 3 0 rfl rfl g5 dX1_divide_24 ?_
  refine lv_iload hx hb dX1_divide_25 (lv_at hl 0 rfl) ?_
  refine lv_isub hx hb dX1_divide_27 ?_
  refine lv_topi (fun z6 ez6 => ?_)
  have h := nm_at ez6 h
  refine lv_istore (lv' := [(5, .int z6), (4, .int u4), (3, .int z2), (0, .ref aW), (1, .ref aF), (2, .int x2)]) hx hb dX1_divide_28 hl (by decide) rfl (fun ls hl => ?_)
  refine lv_aload_n hx hb dX1_divide_30 rfl (lv_at hl 3 rfl) ?_
  refine va_get (D := D) (ci := 1) (v := .ref aW_keeps) (C := RX1) (T := TX1) (N := 12) hx hb hts in_X1 hown hK hP 2 rfl rfl 1 (by decide) q3 (fun _ h9 => h9) rfl dX1_divide_31 ?_
  refine lv_iload_n hx hb dX1_divide_34 rfl (lv_at hl 5 rfl) ?_
  refine lv_iload_n hx hb dX1_divide_35 rfl (lv_at hl 2 rfl) ?_
  refine lv_iload hx hb dX1_divide_36 (lv_at hl 0 rfl) ?_
  obtain ⟨u7, hu7, h⟩ := bd_some h
  refine cl_Si (rest := [.int x2, .ref aW_keeps]) F hK hP hD hS hA hl (t_X3_keeps l D cyI cyJ cyZ cyB cyO z2 z6 u7 hu7) (va_cwS 2 hts gX1_divide_X3_keeps rfl rfl rfl (by decide +kernel) ⟨Nat.le_of_ble_eq_true rfl, Nat.le_of_ble_eq_true rfl⟩) [] [0, 0, 0, 0, 0, 0, 0, 0, 0] [] (w_X1_divide cyI cyJ cyZ cyB cyO aF aF_kind aW aW_comes aW_keeps aF_pool aW_holds aW_goesOn aW_width aF_above aF_edge aF_store aF_spot vF_basins vF_spring vF_hour vF_z cF_kind vW_kept vW_leaked vW_ranOff vW_uneven vW_keptInAll vW_leakedInAll vW_ranOffInAll cW_comes cW_keeps cF_pool cW_holds cW_goesOn cW_width) rfl rfl rfl (by decide +kernel) rfl rfl (Nat.le_of_ble_eq_true rfl) ⟨Nat.zero_le _, Nat.zero_le _⟩ dX1_divide_38 (fun H locs hP hD hS => ?_)
  obtain ⟨g8, h⟩ := gd_some h
  refine va_iast hx hb hK hP hD hS 4 0 rfl rfl g8 dX1_divide_41 (fun H locs hP hD hS => ?_)
  have hP : va_P D vwCl (w_X1_divide cyI cyJ cyZ cyB cyO aF aF_kind aW aW_comes aW_keeps aF_pool aW_holds aW_goesOn aW_width aF_above aF_edge aF_store aF_spot vF_basins vF_spring vF_hour vF_z cF_kind vW_kept vW_leaked vW_ranOff vW_uneven vW_keptInAll vW_leakedInAll vW_ranOffInAll cW_comes (upd cW_keeps x2.toNatClampNeg u7) cF_pool cW_holds cW_goesOn cW_width) H := hP
  have hD : va_D A (w_X1_divide cyI cyJ cyZ cyB cyO aF aF_kind aW aW_comes aW_keeps aF_pool aW_holds aW_goesOn aW_width aF_above aF_edge aF_store aF_spot vF_basins vF_spring vF_hour vF_z cF_kind vW_kept vW_leaked vW_ranOff vW_uneven vW_keptInAll vW_leakedInAll vW_ranOffInAll cW_comes (upd cW_keeps x2.toNatClampNeg u7) cF_pool cW_holds cW_goesOn cW_width) := hD
  refine lv_iload hx hb dX1_divide_42 (lv_at hl 0 rfl) ?_
  refine lv_aload_n hx hb dX1_divide_44 rfl (lv_at hl 3 rfl) ?_
  refine va_get (D := D) (ci := 1) (v := .ref aW_keeps) (C := RX1) (T := TX1) (N := 12) hx hb hts in_X1 hown hK hP 2 rfl rfl 1 (by decide) q3 (fun _ h9 => h9) rfl dX1_divide_45 ?_
  refine lv_iload_n hx hb dX1_divide_48 rfl (lv_at hl 5 rfl) ?_
  obtain ⟨g9, h⟩ := gd_some h
  refine va_iald hx hb hK hP 4 0 rfl rfl g9 dX1_divide_49 ?_
  refine lv_isub hx hb dX1_divide_50 ?_
  refine lv_topi (fun z10 ez10 => ?_)
  have h := nm_at ez10 h
  refine lv_istore (lv' := [(5, .int z10), (4, .int u4), (3, .int z2), (0, .ref aW), (1, .ref aF), (2, .int x2)]) hx hb dX1_divide_51 hl (by decide) rfl (fun ls hl => ?_)
  refine lv_aload_n hx hb dX1_divide_53 rfl (lv_at hl 3 rfl) ?_
  refine va_get (D := D) (ci := 1) (v := .ref aW_holds) (C := RX1) (T := TX1) (N := 12) hx hb hts in_X1 hown hK hP 2 rfl rfl 2 (by decide) q4 (fun _ h9 => h9) rfl dX1_divide_54 ?_
  refine lv_iload_n hx hb dX1_divide_57 rfl (lv_at hl 5 rfl) ?_
  refine lv_iload_n hx hb dX1_divide_58 rfl (lv_at hl 2 rfl) ?_
  refine lv_iload hx hb dX1_divide_59 (lv_at hl 0 rfl) ?_
  refine lv_aload_n hx hb dX1_divide_61 rfl (lv_at hl 4 rfl) ?_
  refine va_get (D := D) (ci := 2) (v := .ref aF_pool) (C := RX2) (T := TX2) (N := 10) hx hb hts in_X2 hown hK hP 0 rfl rfl 3 (by decide) q5 (fun _ h9 => h9) rfl dX1_divide_62 ?_
  refine lv_iload_n hx hb dX1_divide_65 rfl (lv_at hl 5 rfl) ?_
  obtain ⟨g11, h⟩ := gd_some h
  refine va_iald hx hb hK hP 5 0 rfl rfl g11 dX1_divide_66 ?_
  obtain ⟨u12, hu12, h⟩ := bd_some h
  refine cl_Si (rest := [.int x2, .ref aW_holds]) F hK hP hD hS hA hl (t_X3_holds l D cyI cyJ cyZ cyB cyO z2 z10 (cF_pool x2.toNatClampNeg) u12 hu12) (va_cwS 3 hts gX1_divide_X3_holds rfl rfl rfl (by decide +kernel) ⟨Nat.le_of_ble_eq_true rfl, Nat.le_of_ble_eq_true rfl⟩) [] [0, 0, 0, 0, 0, 0, 0, 0, 0] [] (w_X1_divide cyI cyJ cyZ cyB cyO aF aF_kind aW aW_comes aW_keeps aF_pool aW_holds aW_goesOn aW_width aF_above aF_edge aF_store aF_spot vF_basins vF_spring vF_hour vF_z cF_kind vW_kept vW_leaked vW_ranOff vW_uneven vW_keptInAll vW_leakedInAll vW_ranOffInAll cW_comes (upd cW_keeps x2.toNatClampNeg u7) cF_pool cW_holds cW_goesOn cW_width) rfl rfl rfl (by decide +kernel) rfl rfl (Nat.le_of_ble_eq_true rfl) ⟨Nat.zero_le _, Nat.zero_le _⟩ dX1_divide_67 (fun H locs hP hD hS => ?_)
  obtain ⟨g13, h⟩ := gd_some h
  refine va_iast hx hb hK hP hD hS 6 0 rfl rfl g13 dX1_divide_70 (fun H locs hP hD hS => ?_)
  have hP : va_P D vwCl (w_X1_divide cyI cyJ cyZ cyB cyO aF aF_kind aW aW_comes aW_keeps aF_pool aW_holds aW_goesOn aW_width aF_above aF_edge aF_store aF_spot vF_basins vF_spring vF_hour vF_z cF_kind vW_kept vW_leaked vW_ranOff vW_uneven vW_keptInAll vW_leakedInAll vW_ranOffInAll cW_comes (upd cW_keeps x2.toNatClampNeg u7) cF_pool (upd cW_holds x2.toNatClampNeg u12) cW_goesOn cW_width) H := hP
  have hD : va_D A (w_X1_divide cyI cyJ cyZ cyB cyO aF aF_kind aW aW_comes aW_keeps aF_pool aW_holds aW_goesOn aW_width aF_above aF_edge aF_store aF_spot vF_basins vF_spring vF_hour vF_z cF_kind vW_kept vW_leaked vW_ranOff vW_uneven vW_keptInAll vW_leakedInAll vW_ranOffInAll cW_comes (upd cW_keeps x2.toNatClampNeg u7) cF_pool (upd cW_holds x2.toNatClampNeg u12) cW_goesOn cW_width) := hD
  refine lv_iload hx hb dX1_divide_71 (lv_at hl 0 rfl) ?_
  refine lv_aload_n hx hb dX1_divide_73 rfl (lv_at hl 3 rfl) ?_
  refine va_get (D := D) (ci := 1) (v := .ref aW_holds) (C := RX1) (T := TX1) (N := 12) hx hb hts in_X1 hown hK hP 2 rfl rfl 2 (by decide) q4 (fun _ h9 => h9) rfl dX1_divide_74 ?_
  refine lv_iload_n hx hb dX1_divide_77 rfl (lv_at hl 5 rfl) ?_
  obtain ⟨g14, h⟩ := gd_some h
  refine va_iald hx hb hK hP 6 0 rfl rfl g14 dX1_divide_78 ?_
  refine lv_isub hx hb dX1_divide_79 ?_
  refine lv_topi (fun z15 ez15 => ?_)
  have h := nm_at ez15 h
  refine lv_istore (lv' := [(5, .int z15), (4, .int u4), (3, .int z2), (0, .ref aW), (1, .ref aF), (2, .int x2)]) hx hb dX1_divide_80 hl (by decide) rfl (fun ls hl => ?_)
  refine lv_aload_n hx hb dX1_divide_82 rfl (lv_at hl 3 rfl) ?_
  refine va_get (D := D) (ci := 1) (v := .ref aW_goesOn) (C := RX1) (T := TX1) (N := 12) hx hb hts in_X1 hown hK hP 2 rfl rfl 3 (by decide) q6 (fun _ h9 => h9) rfl dX1_divide_83 ?_
  refine lv_iload_n hx hb dX1_divide_86 rfl (lv_at hl 5 rfl) ?_
  refine lv_iload hx hb dX1_divide_87 (lv_at hl 0 rfl) ?_
  obtain ⟨g16, h⟩ := gd_some h
  refine va_iast hx hb hK hP hD hS 7 0 rfl rfl g16 dX1_divide_89 (fun H locs hP hD hS => ?_)
  have hP : va_P D vwCl (w_X1_divide cyI cyJ cyZ cyB cyO aF aF_kind aW aW_comes aW_keeps aF_pool aW_holds aW_goesOn aW_width aF_above aF_edge aF_store aF_spot vF_basins vF_spring vF_hour vF_z cF_kind vW_kept vW_leaked vW_ranOff vW_uneven vW_keptInAll vW_leakedInAll vW_ranOffInAll cW_comes (upd cW_keeps x2.toNatClampNeg u7) cF_pool (upd cW_holds x2.toNatClampNeg u12) (upd cW_goesOn x2.toNatClampNeg z15) cW_width) H := hP
  have hD : va_D A (w_X1_divide cyI cyJ cyZ cyB cyO aF aF_kind aW aW_comes aW_keeps aF_pool aW_holds aW_goesOn aW_width aF_above aF_edge aF_store aF_spot vF_basins vF_spring vF_hour vF_z cF_kind vW_kept vW_leaked vW_ranOff vW_uneven vW_keptInAll vW_leakedInAll vW_ranOffInAll cW_comes (upd cW_keeps x2.toNatClampNeg u7) cF_pool (upd cW_holds x2.toNatClampNeg u12) (upd cW_goesOn x2.toNatClampNeg z15) cW_width) := hD
  refine lv_aload_n hx hb dX1_divide_90 rfl (lv_at hl 3 rfl) ?_
  refine lv_dup hx hb dX1_divide_91 rfl ?_
  refine va_get (D := D) (ci := 1) (v := .int vW_leaked) (C := RX1) (T := TX1) (N := 12) hx hb hts in_X1 hown hK hP 2 rfl rfl 6 (by decide) q7 (fun _ h9 => h9) rfl dX1_divide_92 ?_
  refine lv_iload hx hb dX1_divide_95 (lv_at hl 1 rfl) ?_
  refine lv_iadd hx hb dX1_divide_97 ?_
  refine va_put (D := D) (ci := 1) (v := .int (vW_leaked + u4)) (ty := .int) (C := RX1) (T := TX1) (N := 12) hx hb hts in_X1 tyX1 tyX1_ok nmX1 hown hK hP hD hS 2 rfl rfl 6 (by decide) q7 (fun _ h9 => h9) rfl (by decide +kernel) rfl rfl (Nat.le_of_ble_eq_true rfl) dX1_divide_98 (fun H locs hP hD hS => ?_)
  have hP : va_P D vwCl (w_X1_divide cyI cyJ cyZ cyB cyO aF aF_kind aW aW_comes aW_keeps aF_pool aW_holds aW_goesOn aW_width aF_above aF_edge aF_store aF_spot vF_basins vF_spring vF_hour vF_z cF_kind vW_kept (vW_leaked + u4) vW_ranOff vW_uneven vW_keptInAll vW_leakedInAll vW_ranOffInAll cW_comes (upd cW_keeps x2.toNatClampNeg u7) cF_pool (upd cW_holds x2.toNatClampNeg u12) (upd cW_goesOn x2.toNatClampNeg z15) cW_width) H := hP
  have hD : va_D A (w_X1_divide cyI cyJ cyZ cyB cyO aF aF_kind aW aW_comes aW_keeps aF_pool aW_holds aW_goesOn aW_width aF_above aF_edge aF_store aF_spot vF_basins vF_spring vF_hour vF_z cF_kind vW_kept (vW_leaked + u4) vW_ranOff vW_uneven vW_keptInAll vW_leakedInAll vW_ranOffInAll cW_comes (upd cW_keeps x2.toNatClampNeg u7) cF_pool (upd cW_holds x2.toNatClampNeg u12) (upd cW_goesOn x2.toNatClampNeg z15) cW_width) := hD
  refine lv_aload_n hx hb dX1_divide_101 rfl (lv_at hl 3 rfl) ?_
  refine lv_dup hx hb dX1_divide_102 rfl ?_
  refine va_get (D := D) (ci := 1) (v := .int vW_kept) (C := RX1) (T := TX1) (N := 12) hx hb hts in_X1 hown hK hP 2 rfl rfl 5 (by decide) q8 (fun _ h9 => h9) rfl dX1_divide_103 ?_
  refine lv_aload_n hx hb dX1_divide_106 rfl (lv_at hl 3 rfl) ?_
  refine va_get (D := D) (ci := 1) (v := .ref aW_keeps) (C := RX1) (T := TX1) (N := 12) hx hb hts in_X1 hown hK hP 2 rfl rfl 1 (by decide) q3 (fun _ h9 => h9) rfl dX1_divide_107 ?_
  refine lv_iload_n hx hb dX1_divide_110 rfl (lv_at hl 5 rfl) ?_
  obtain ⟨g17, h⟩ := gd_some h
  refine va_iald hx hb hK hP 4 0 rfl rfl g17 dX1_divide_111 ?_
  refine lv_iadd hx hb dX1_divide_112 ?_
  refine va_put (D := D) (ci := 1) (v := .int (vW_kept + ((upd cW_keeps x2.toNatClampNeg u7) x2.toNatClampNeg))) (ty := .int) (C := RX1) (T := TX1) (N := 12) hx hb hts in_X1 tyX1 tyX1_ok nmX1 hown hK hP hD hS 2 rfl rfl 5 (by decide) q8 (fun _ h9 => h9) rfl (by decide +kernel) rfl rfl (Nat.le_of_ble_eq_true rfl) dX1_divide_113 (fun H locs hP hD hS => ?_)
  have hP : va_P D vwCl (w_X1_divide cyI cyJ cyZ cyB cyO aF aF_kind aW aW_comes aW_keeps aF_pool aW_holds aW_goesOn aW_width aF_above aF_edge aF_store aF_spot vF_basins vF_spring vF_hour vF_z cF_kind (vW_kept + ((upd cW_keeps x2.toNatClampNeg u7) x2.toNatClampNeg)) (vW_leaked + u4) vW_ranOff vW_uneven vW_keptInAll vW_leakedInAll vW_ranOffInAll cW_comes (upd cW_keeps x2.toNatClampNeg u7) cF_pool (upd cW_holds x2.toNatClampNeg u12) (upd cW_goesOn x2.toNatClampNeg z15) cW_width) H := hP
  have hD : va_D A (w_X1_divide cyI cyJ cyZ cyB cyO aF aF_kind aW aW_comes aW_keeps aF_pool aW_holds aW_goesOn aW_width aF_above aF_edge aF_store aF_spot vF_basins vF_spring vF_hour vF_z cF_kind (vW_kept + ((upd cW_keeps x2.toNatClampNeg u7) x2.toNatClampNeg)) (vW_leaked + u4) vW_ranOff vW_uneven vW_keptInAll vW_leakedInAll vW_ranOffInAll cW_comes (upd cW_keeps x2.toNatClampNeg u7) cF_pool (upd cW_holds x2.toNatClampNeg u12) (upd cW_goesOn x2.toNatClampNeg z15) cW_width) := hD
  refine lv_aload_n hx hb dX1_divide_116 rfl (lv_at hl 3 rfl) ?_
  refine lv_dup hx hb dX1_divide_117 rfl ?_
  refine va_get (D := D) (ci := 1) (v := .int vW_ranOff) (C := RX1) (T := TX1) (N := 12) hx hb hts in_X1 hown hK hP 2 rfl rfl 7 (by decide) q9 (fun _ h9 => h9) rfl dX1_divide_118 ?_
  refine lv_iload hx hb dX1_divide_121 (lv_at hl 0 rfl) ?_
  refine lv_iadd hx hb dX1_divide_123 ?_
  refine va_put (D := D) (ci := 1) (v := .int (vW_ranOff + z15)) (ty := .int) (C := RX1) (T := TX1) (N := 12) hx hb hts in_X1 tyX1 tyX1_ok nmX1 hown hK hP hD hS 2 rfl rfl 7 (by decide) q9 (fun _ h9 => h9) rfl (by decide +kernel) rfl rfl (Nat.le_of_ble_eq_true rfl) dX1_divide_124 (fun H locs hP hD hS => ?_)
  have hP : va_P D vwCl (w_X1_divide cyI cyJ cyZ cyB cyO aF aF_kind aW aW_comes aW_keeps aF_pool aW_holds aW_goesOn aW_width aF_above aF_edge aF_store aF_spot vF_basins vF_spring vF_hour vF_z cF_kind (vW_kept + ((upd cW_keeps x2.toNatClampNeg u7) x2.toNatClampNeg)) (vW_leaked + u4) (vW_ranOff + z15) vW_uneven vW_keptInAll vW_leakedInAll vW_ranOffInAll cW_comes (upd cW_keeps x2.toNatClampNeg u7) cF_pool (upd cW_holds x2.toNatClampNeg u12) (upd cW_goesOn x2.toNatClampNeg z15) cW_width) H := hP
  have hD : va_D A (w_X1_divide cyI cyJ cyZ cyB cyO aF aF_kind aW aW_comes aW_keeps aF_pool aW_holds aW_goesOn aW_width aF_above aF_edge aF_store aF_spot vF_basins vF_spring vF_hour vF_z cF_kind (vW_kept + ((upd cW_keeps x2.toNatClampNeg u7) x2.toNatClampNeg)) (vW_leaked + u4) (vW_ranOff + z15) vW_uneven vW_keptInAll vW_leakedInAll vW_ranOffInAll cW_comes (upd cW_keeps x2.toNatClampNeg u7) cF_pool (upd cW_holds x2.toNatClampNeg u12) (upd cW_goesOn x2.toNatClampNeg z15) cW_width) := hD
  refine lv_aload_n hx hb dX1_divide_127 rfl (lv_at hl 3 rfl) ?_
  refine va_get (D := D) (ci := 1) (v := .ref aW_width) (C := RX1) (T := TX1) (N := 12) hx hb hts in_X1 hown hK hP 2 rfl rfl 4 (by decide) q10 (fun _ h9 => h9) rfl dX1_divide_128 ?_
  refine lv_iload_n hx hb dX1_divide_131 rfl (lv_at hl 5 rfl) ?_
  obtain ⟨g18, h⟩ := gd_some h
  refine va_iald hx hb hK hP 8 0 rfl rfl g18 dX1_divide_132 ?_
  refine lv_if_le (tgt := 147) hx hb dX1_divide_133 (by decide) (fun c19 => ?_) (fun c19 => ?_)
  · have h := br_pos c19 h
    obtain rfl := Option.some.inj h
    exact hret _ _ _ _ hP hD hS dX1_divide_147 
  · have h := br_neg c19 h
    refine lv_aload_n hx hb dX1_divide_136 rfl (lv_at hl 3 rfl) ?_
    refine lv_dup hx hb dX1_divide_137 rfl ?_
    refine va_get (D := D) (ci := 1) (v := .int vW_uneven) (C := RX1) (T := TX1) (N := 12) hx hb hts in_X1 hown hK hP 2 rfl rfl 8 (by decide) q11 (fun _ h9 => h9) rfl dX1_divide_138 ?_
    refine lv_iload hx hb dX1_divide_141 (lv_at hl 0 rfl) ?_
    refine lv_iadd hx hb dX1_divide_143 ?_
    refine va_put (D := D) (ci := 1) (v := .int (vW_uneven + z15)) (ty := .int) (C := RX1) (T := TX1) (N := 12) hx hb hts in_X1 tyX1 tyX1_ok nmX1 hown hK hP hD hS 2 rfl rfl 8 (by decide) q11 (fun _ h9 => h9) rfl (by decide +kernel) rfl rfl (Nat.le_of_ble_eq_true rfl) dX1_divide_144 (fun H locs hP hD hS => ?_)
    have hP : va_P D vwCl (w_X1_divide cyI cyJ cyZ cyB cyO aF aF_kind aW aW_comes aW_keeps aF_pool aW_holds aW_goesOn aW_width aF_above aF_edge aF_store aF_spot vF_basins vF_spring vF_hour vF_z cF_kind (vW_kept + ((upd cW_keeps x2.toNatClampNeg u7) x2.toNatClampNeg)) (vW_leaked + u4) (vW_ranOff + z15) (vW_uneven + z15) vW_keptInAll vW_leakedInAll vW_ranOffInAll cW_comes (upd cW_keeps x2.toNatClampNeg u7) cF_pool (upd cW_holds x2.toNatClampNeg u12) (upd cW_goesOn x2.toNatClampNeg z15) cW_width) H := hP
    have hD : va_D A (w_X1_divide cyI cyJ cyZ cyB cyO aF aF_kind aW aW_comes aW_keeps aF_pool aW_holds aW_goesOn aW_width aF_above aF_edge aF_store aF_spot vF_basins vF_spring vF_hour vF_z cF_kind (vW_kept + ((upd cW_keeps x2.toNatClampNeg u7) x2.toNatClampNeg)) (vW_leaked + u4) (vW_ranOff + z15) (vW_uneven + z15) vW_keptInAll vW_leakedInAll vW_ranOffInAll cW_comes (upd cW_keeps x2.toNatClampNeg u7) cF_pool (upd cW_holds x2.toNatClampNeg u12) (upd cW_goesOn x2.toNatClampNeg z15) cW_width) := hD
    obtain rfl := Option.some.inj h
    exact hret _ _ _ _ hP hD hS dX1_divide_147 
/-! ===== X1_reckon ===== -/
def w_X1_reckon (cyI cyJ cyZ cyB cyO : ClassId) (aW aF aW_width aF_above aF_edge aW_goesOn aW_comes aF_kind aW_keeps aF_pool aW_holds aF_store aF_spot : Nat) (vW_kept : Int32) (vW_leaked : Int32) (vW_ranOff : Int32) (vW_uneven : Int32) (vW_keptInAll : Int32) (vW_leakedInAll : Int32) (vW_ranOffInAll : Int32) (vF_basins : Int32) (vF_spring : Int32) (vF_hour : Int32) (vF_z : Int32) (cW_width : Nat → Int32) (cF_above : Nat → Int32) (cF_edge : Nat → Int32) (cW_goesOn : Nat → Int32) (cW_comes : Nat → Int32) (cF_kind : Nat → Int32) (cW_keeps : Nat → Int32) (cF_pool : Nat → Int32) (cW_holds : Nat → Int32) : va_W := [(aW, .inr (1, [.ref aW_comes, .ref aW_keeps, .ref aW_holds, .ref aW_goesOn, .ref aW_width, .int vW_kept, .int vW_leaked, .int vW_ranOff, .int vW_uneven, .int vW_keptInAll, .int vW_leakedInAll, .int vW_ranOffInAll])), (aF, .inr (2, [.ref aF_kind, .ref aF_above, .ref aF_edge, .ref aF_pool, .ref aF_store, .ref aF_spot, .int vF_basins, .int vF_spring, .int vF_hour, .int vF_z])), (aW_width, .inl (cyI, 10, .inl cW_width)), (aF_above, .inl (cyI, 10, .inl cF_above)), (aF_edge, .inl (cyI, 10, .inl cF_edge)), (aW_goesOn, .inl (cyI, 10, .inl cW_goesOn)), (aW_comes, .inl (cyI, 10, .inl cW_comes)), (aF_kind, .inl (cyI, 10, .inl cF_kind)), (aW_keeps, .inl (cyI, 10, .inl cW_keeps)), (aF_pool, .inl (cyI, 10, .inl cF_pool)), (aW_holds, .inl (cyI, 10, .inl cW_holds))]
set_option maxHeartbeats 4000000 in
set_option maxRecDepth 100000 in
theorem t_X1_reckon (l : Launch) (D : va_G) (cyI cyJ cyZ cyB cyO : ClassId) (aW aF aW_width aF_above aF_edge aW_goesOn aW_comes aF_kind aW_keeps aF_pool aW_holds aF_store aF_spot : Nat) (vW_kept : Int32) (vW_leaked : Int32) (vW_ranOff : Int32) (vW_uneven : Int32) (vW_keptInAll : Int32) (vW_leakedInAll : Int32) (vW_ranOffInAll : Int32) (vF_basins : Int32) (vF_spring : Int32) (vF_hour : Int32) (vF_z : Int32) (cW_width : Nat → Int32) (cF_above : Nat → Int32) (cF_edge : Nat → Int32) (cW_goesOn : Nat → Int32) (cW_comes : Nat → Int32) (cF_kind : Nat → Int32) (cW_keeps : Nat → Int32) (cF_pool : Nat → Int32) (cW_holds : Nat → Int32) (out : Int32 × Int32 × Int32 × Int32 × (Nat → Int32) × (Nat → Int32) × (Nat → Int32) × (Nat → Int32) × (Nat → Int32)) (h : f_X1_reckon vW_kept vW_leaked vW_ranOff vW_uneven vF_basins vF_spring cW_width cF_above cF_edge cW_goesOn cW_comes cF_kind cW_keeps cF_pool cW_holds = some out) : Mv l yX1_reckon wsX1_reckon ({ frames := 3, cells := 0, slots := 0, locals := 68 } : Room) D (tyA cyI cyJ cyZ cyB cyO) [.ref aW, .ref aF] (w_X1_reckon cyI cyJ cyZ cyB cyO aW aF aW_width aF_above aF_edge aW_goesOn aW_comes aF_kind aW_keeps aF_pool aW_holds aF_store aF_spot vW_kept vW_leaked vW_ranOff vW_uneven vW_keptInAll vW_leakedInAll vW_ranOffInAll vF_basins vF_spring vF_hour vF_z cW_width cF_above cF_edge cW_goesOn cW_comes cF_kind cW_keeps cF_pool cW_holds) (w_X1_reckon cyI cyJ cyZ cyB cyO aW aF aW_width aF_above aF_edge aW_goesOn aW_comes aF_kind aW_keeps aF_pool aW_holds aF_store aF_spot out.1 out.2.1 out.2.2.1 out.2.2.2.1 vW_keptInAll vW_leakedInAll vW_ranOffInAll vF_basins vF_spring vF_hour vF_z out.2.2.2.2.1 cF_above cF_edge out.2.2.2.2.2.1 out.2.2.2.2.2.2.1 cF_kind out.2.2.2.2.2.2.2.1 cF_pool out.2.2.2.2.2.2.2.2) := by
  refine Mv.mk (cc := cX1_reckon) (maxL := 3) (own := RX1) (by decide) rfl rfl (Nat.le_of_ble_eq_true rfl) ?_
  intro p e s m args below meth c A Q F hK hP hD hA hret ls hl
  obtain ⟨hx, hb, hml, hown, hts⟩ := id F
  have hS : va_S A s.heap s.heap [] := va_S.rf
  have hl : lv_has ls 3 [(0, .ref aW), (1, .ref aF)] := hl
  have in_X1 : ∀ w ∈ wsX10, w ∈ wsX1_reckon := by decide +kernel
  have in_X2 : ∀ w ∈ wsX20, w ∈ wsX1_reckon := by decide +kernel
  have q1 := hts (Cond.fieldLink RX1 47 "ThirdFountain$Flow" "kept" "I") (List.mem_of_getElem? (i := 1) rfl)
  have q2 := hts (Cond.fieldLink RX1 50 "ThirdFountain$Flow" "leaked" "I") (List.mem_of_getElem? (i := 2) rfl)
  have q3 := hts (Cond.fieldLink RX1 53 "ThirdFountain$Flow" "ranOff" "I") (List.mem_of_getElem? (i := 3) rfl)
  have q4 := hts (Cond.fieldLink RX1 56 "ThirdFountain$Flow" "uneven" "I") (List.mem_of_getElem? (i := 4) rfl)
  have q7 := hts (Cond.methodLink RX1 59 yX1_measure) (List.mem_of_getElem? (i := 7) rfl)
  have q5 := hts (Cond.fieldLink RX1 62 "ThirdFountain$Fountain" "basins" "I") (List.mem_of_getElem? (i := 5) rfl)
  have q6 := hts (Cond.fieldLink RX1 9 "ThirdFountain$Flow" "comes" "[I") (List.mem_of_getElem? (i := 6) rfl)
  have q15 := hts (Cond.methodLink RX1 65 yX1_comingTo) (List.mem_of_getElem? (i := 15) rfl)
  have q21 := hts (Cond.methodLink RX1 69 yX1_divide) (List.mem_of_getElem? (i := 21) rfl)
  unfold f_X1_reckon at h
  refine lv_aload_n hx hb dX1_reckon_0 rfl (lv_at hl 0 rfl) ?_
  refine lv_iconst (v := 0) hx hb dX1_reckon_1 (by decide) ?_
  refine va_put (D := D) (ci := 1) (v := .int (0 : Int32)) (ty := .int) (C := RX1) (T := TX1) (N := 12) hx hb hts in_X1 tyX1 tyX1_ok nmX1 hown hK hP hD hS 0 rfl rfl 5 (by decide) q1 (fun _ h9 => h9) rfl (by decide +kernel) rfl rfl (Nat.le_of_ble_eq_true rfl) dX1_reckon_2 (fun H locs hP hD hS => ?_)
  have hP : va_P D vwCl (w_X1_reckon cyI cyJ cyZ cyB cyO aW aF aW_width aF_above aF_edge aW_goesOn aW_comes aF_kind aW_keeps aF_pool aW_holds aF_store aF_spot (0 : Int32) vW_leaked vW_ranOff vW_uneven vW_keptInAll vW_leakedInAll vW_ranOffInAll vF_basins vF_spring vF_hour vF_z cW_width cF_above cF_edge cW_goesOn cW_comes cF_kind cW_keeps cF_pool cW_holds) H := hP
  have hD : va_D A (w_X1_reckon cyI cyJ cyZ cyB cyO aW aF aW_width aF_above aF_edge aW_goesOn aW_comes aF_kind aW_keeps aF_pool aW_holds aF_store aF_spot (0 : Int32) vW_leaked vW_ranOff vW_uneven vW_keptInAll vW_leakedInAll vW_ranOffInAll vF_basins vF_spring vF_hour vF_z cW_width cF_above cF_edge cW_goesOn cW_comes cF_kind cW_keeps cF_pool cW_holds) := hD
  refine lv_aload_n hx hb dX1_reckon_5 rfl (lv_at hl 0 rfl) ?_
  refine lv_iconst (v := 0) hx hb dX1_reckon_6 (by decide) ?_
  refine va_put (D := D) (ci := 1) (v := .int (0 : Int32)) (ty := .int) (C := RX1) (T := TX1) (N := 12) hx hb hts in_X1 tyX1 tyX1_ok nmX1 hown hK hP hD hS 0 rfl rfl 6 (by decide) q2 (fun _ h9 => h9) rfl (by decide +kernel) rfl rfl (Nat.le_of_ble_eq_true rfl) dX1_reckon_7 (fun H locs hP hD hS => ?_)
  have hP : va_P D vwCl (w_X1_reckon cyI cyJ cyZ cyB cyO aW aF aW_width aF_above aF_edge aW_goesOn aW_comes aF_kind aW_keeps aF_pool aW_holds aF_store aF_spot (0 : Int32) (0 : Int32) vW_ranOff vW_uneven vW_keptInAll vW_leakedInAll vW_ranOffInAll vF_basins vF_spring vF_hour vF_z cW_width cF_above cF_edge cW_goesOn cW_comes cF_kind cW_keeps cF_pool cW_holds) H := hP
  have hD : va_D A (w_X1_reckon cyI cyJ cyZ cyB cyO aW aF aW_width aF_above aF_edge aW_goesOn aW_comes aF_kind aW_keeps aF_pool aW_holds aF_store aF_spot (0 : Int32) (0 : Int32) vW_ranOff vW_uneven vW_keptInAll vW_leakedInAll vW_ranOffInAll vF_basins vF_spring vF_hour vF_z cW_width cF_above cF_edge cW_goesOn cW_comes cF_kind cW_keeps cF_pool cW_holds) := hD
  refine lv_aload_n hx hb dX1_reckon_10 rfl (lv_at hl 0 rfl) ?_
  refine lv_iconst (v := 0) hx hb dX1_reckon_11 (by decide) ?_
  refine va_put (D := D) (ci := 1) (v := .int (0 : Int32)) (ty := .int) (C := RX1) (T := TX1) (N := 12) hx hb hts in_X1 tyX1 tyX1_ok nmX1 hown hK hP hD hS 0 rfl rfl 7 (by decide) q3 (fun _ h9 => h9) rfl (by decide +kernel) rfl rfl (Nat.le_of_ble_eq_true rfl) dX1_reckon_12 (fun H locs hP hD hS => ?_)
  have hP : va_P D vwCl (w_X1_reckon cyI cyJ cyZ cyB cyO aW aF aW_width aF_above aF_edge aW_goesOn aW_comes aF_kind aW_keeps aF_pool aW_holds aF_store aF_spot (0 : Int32) (0 : Int32) (0 : Int32) vW_uneven vW_keptInAll vW_leakedInAll vW_ranOffInAll vF_basins vF_spring vF_hour vF_z cW_width cF_above cF_edge cW_goesOn cW_comes cF_kind cW_keeps cF_pool cW_holds) H := hP
  have hD : va_D A (w_X1_reckon cyI cyJ cyZ cyB cyO aW aF aW_width aF_above aF_edge aW_goesOn aW_comes aF_kind aW_keeps aF_pool aW_holds aF_store aF_spot (0 : Int32) (0 : Int32) (0 : Int32) vW_uneven vW_keptInAll vW_leakedInAll vW_ranOffInAll vF_basins vF_spring vF_hour vF_z cW_width cF_above cF_edge cW_goesOn cW_comes cF_kind cW_keeps cF_pool cW_holds) := hD
  refine lv_aload_n hx hb dX1_reckon_15 rfl (lv_at hl 0 rfl) ?_
  refine lv_iconst (v := 0) hx hb dX1_reckon_16 (by decide) ?_
  refine va_put (D := D) (ci := 1) (v := .int (0 : Int32)) (ty := .int) (C := RX1) (T := TX1) (N := 12) hx hb hts in_X1 tyX1 tyX1_ok nmX1 hown hK hP hD hS 0 rfl rfl 8 (by decide) q4 (fun _ h9 => h9) rfl (by decide +kernel) rfl rfl (Nat.le_of_ble_eq_true rfl) dX1_reckon_17 (fun H locs hP hD hS => ?_)
  have hP : va_P D vwCl (w_X1_reckon cyI cyJ cyZ cyB cyO aW aF aW_width aF_above aF_edge aW_goesOn aW_comes aF_kind aW_keeps aF_pool aW_holds aF_store aF_spot (0 : Int32) (0 : Int32) (0 : Int32) (0 : Int32) vW_keptInAll vW_leakedInAll vW_ranOffInAll vF_basins vF_spring vF_hour vF_z cW_width cF_above cF_edge cW_goesOn cW_comes cF_kind cW_keeps cF_pool cW_holds) H := hP
  have hD : va_D A (w_X1_reckon cyI cyJ cyZ cyB cyO aW aF aW_width aF_above aF_edge aW_goesOn aW_comes aF_kind aW_keeps aF_pool aW_holds aF_store aF_spot (0 : Int32) (0 : Int32) (0 : Int32) (0 : Int32) vW_keptInAll vW_leakedInAll vW_ranOffInAll vF_basins vF_spring vF_hour vF_z cW_width cF_above cF_edge cW_goesOn cW_comes cF_kind cW_keeps cF_pool cW_holds) := hD
  refine lv_aload_n hx hb dX1_reckon_20 rfl (lv_at hl 0 rfl) ?_
  refine lv_aload_n hx hb dX1_reckon_21 rfl (lv_at hl 1 rfl) ?_
  obtain ⟨u1, hu1, h⟩ := bd_some h
  refine cl_Vv (rest := []) F hK hP hD hS hA hl (t_X1_measure l D cyI cyJ cyZ cyB cyO aF aW aW_width aF_above aF_edge aF_kind aF_pool aF_store aF_spot aW_comes aW_keeps aW_holds aW_goesOn vF_basins vF_spring vF_hour vF_z (0 : Int32) (0 : Int32) (0 : Int32) (0 : Int32) vW_keptInAll vW_leakedInAll vW_ranOffInAll cW_width cF_above cF_edge u1 hu1) (cwV 1 hts gX1_reckon_X1_measure rfl rfl rfl (by decide +kernel) ⟨Nat.le_of_ble_eq_true rfl, Nat.le_of_ble_eq_true rfl⟩) 0 [1, 0, 2, 3, 4] [2, 1, 3, 4, 5, 0, 0, 0, 0, 0, 0] [] (w_X1_reckon cyI cyJ cyZ cyB cyO aW aF aW_width aF_above aF_edge aW_goesOn aW_comes aF_kind aW_keeps aF_pool aW_holds aF_store aF_spot (0 : Int32) (0 : Int32) (0 : Int32) (0 : Int32) vW_keptInAll vW_leakedInAll vW_ranOffInAll vF_basins vF_spring vF_hour vF_z u1 cF_above cF_edge cW_goesOn cW_comes cF_kind cW_keeps cF_pool cW_holds) rfl rfl rfl rfl rfl (by decide +kernel) rfl rfl (Nat.le_of_ble_eq_true rfl) ⟨Nat.zero_le _, Nat.zero_le _⟩ dX1_reckon_22 (fun H locs hP hD hS => ?_)
  refine lv_iconst (v := 0) hx hb dX1_reckon_25 (by decide) ?_
  refine lv_istore_n (lv' := [(2, .int (0 : Int32)), (0, .ref aW), (1, .ref aF)]) hx hb dX1_reckon_26 rfl hl (by decide) rfl (fun ls hl => ?_)
  have lp27 : ∀ (k27 : Nat) (y2 : Int32) (vW_kept : Int32) (vW_leaked : Int32) (vW_ranOff : Int32) (vW_uneven : Int32) (cW_width : Nat → Int32) (cW_goesOn : Nat → Int32) (cW_comes : Nat → Int32) (cW_keeps : Nat → Int32) (cW_holds : Nat → Int32) (H : Heap) (locs : List Loc) (ls : Array Slot), va_P D vwCl (w_X1_reckon cyI cyJ cyZ cyB cyO aW aF aW_width aF_above aF_edge aW_goesOn aW_comes aF_kind aW_keeps aF_pool aW_holds aF_store aF_spot vW_kept vW_leaked vW_ranOff vW_uneven vW_keptInAll vW_leakedInAll vW_ranOffInAll vF_basins vF_spring vF_hour vF_z cW_width cF_above cF_edge cW_goesOn cW_comes cF_kind cW_keeps cF_pool cW_holds) H → va_D A (w_X1_reckon cyI cyJ cyZ cyB cyO aW aF aW_width aF_above aF_edge aW_goesOn aW_comes aF_kind aW_keeps aF_pool aW_holds aF_store aF_spot vW_kept vW_leaked vW_ranOff vW_uneven vW_keptInAll vW_leakedInAll vW_ranOffInAll vF_basins vF_spring vF_hour vF_z cW_width cF_above cF_edge cW_goesOn cW_comes cF_kind cW_keeps cF_pool cW_holds) → va_S A s.heap H locs → lv_has ls 3 [(2, .int y2), (0, .ref aW), (1, .ref aF)] → (f_X1_reckon_L27 vF_basins vF_spring cF_above cF_edge cF_kind cF_pool k27) (y2, vW_kept, vW_leaked, vW_ranOff, vW_uneven, cW_width, cW_goesOn, cW_comes, cW_keeps, cW_holds) = some out → W p l e ({ frames := 3, cells := 0, slots := 0, locals := 68 } : Room) s m args below meth c H locs 0 0 Q (F0 m 27 ls []) := by
    intro k27
    induction k27 with
    | zero => intro y2 vW_kept vW_leaked vW_ranOff vW_uneven cW_width cW_goesOn cW_comes cW_keeps cW_holds H locs ls hP hD hS hl h; cases h
    | succ k27 ih27 =>
      intro y2 vW_kept vW_leaked vW_ranOff vW_uneven cW_width cW_goesOn cW_comes cW_keeps cW_holds H locs ls hP hD hS hl h
      have h : f_X1_reckon_L27_b vF_basins vF_spring cF_above cF_edge cF_kind cF_pool (f_X1_reckon_L27 vF_basins vF_spring cF_above cF_edge cF_kind cF_pool k27) y2 vW_kept vW_leaked vW_ranOff vW_uneven cW_width cW_goesOn cW_comes cW_keeps cW_holds = some out := h
      unfold f_X1_reckon_L27_b at h
      refine lv_iload_n hx hb dX1_reckon_27 rfl (lv_at hl 0 rfl) ?_
      refine lv_aload_n hx hb dX1_reckon_28 rfl (lv_at hl 2 rfl) ?_
      refine va_get (D := D) (ci := 2) (v := .int vF_basins) (C := RX2) (T := TX2) (N := 10) hx hb hts in_X2 hown hK hP 1 rfl rfl 6 (by decide) q5 (fun _ h9 => h9) rfl dX1_reckon_29 ?_
      refine lv_icmp_ge (tgt := 59) hx hb dX1_reckon_32 (by decide) (fun c2 => ?_) (fun c2 => ?_)
      · have h := br_pos c2 h
        obtain rfl := Option.some.inj h
        exact hret _ _ _ _ hP hD hS dX1_reckon_59 
      · have h := br_neg c2 h
        refine lv_aload_n hx hb dX1_reckon_35 rfl (lv_at hl 1 rfl) ?_
        refine va_get (D := D) (ci := 1) (v := .ref aW_comes) (C := RX1) (T := TX1) (N := 12) hx hb hts in_X1 hown hK hP 0 rfl rfl 0 (by decide) q6 (fun _ h9 => h9) rfl dX1_reckon_36 ?_
        refine lv_iload_n hx hb dX1_reckon_39 rfl (lv_at hl 0 rfl) ?_
        refine lv_aload_n hx hb dX1_reckon_40 rfl (lv_at hl 1 rfl) ?_
        refine lv_aload_n hx hb dX1_reckon_41 rfl (lv_at hl 2 rfl) ?_
        refine lv_iload_n hx hb dX1_reckon_42 rfl (lv_at hl 0 rfl) ?_
        obtain ⟨u3, hu3, h⟩ := bd_some h
        refine cl_Vi (rest := [.int y2, .ref aW_comes]) F hK hP hD hS hA hl (t_X1_comingTo l D cyI cyJ cyZ cyB cyO aF aF_above aW aW_width aW_goesOn aF_edge aF_kind aF_pool aF_store aF_spot aW_comes aW_keeps aW_holds vF_basins vF_spring vF_hour vF_z cF_above vW_kept vW_leaked vW_ranOff vW_uneven vW_keptInAll vW_leakedInAll vW_ranOffInAll cW_width cW_goesOn cF_edge y2 u3 hu3) (cwV 2 hts gX1_reckon_X1_comingTo rfl rfl rfl (by decide +kernel) ⟨Nat.le_of_ble_eq_true rfl, Nat.le_of_ble_eq_true rfl⟩) 0 [1, 3, 0, 2, 5, 4] [3, 1, 4, 2, 6, 5, 0, 0, 0, 0, 0] [] (w_X1_reckon cyI cyJ cyZ cyB cyO aW aF aW_width aF_above aF_edge aW_goesOn aW_comes aF_kind aW_keeps aF_pool aW_holds aF_store aF_spot vW_kept vW_leaked u3.2.1 u3.2.2 vW_keptInAll vW_leakedInAll vW_ranOffInAll vF_basins vF_spring vF_hour vF_z cW_width cF_above cF_edge cW_goesOn cW_comes cF_kind cW_keeps cF_pool cW_holds) rfl rfl rfl rfl rfl (by decide +kernel) rfl rfl (Nat.le_of_ble_eq_true rfl) ⟨Nat.zero_le _, Nat.zero_le _⟩ dX1_reckon_43 (fun H locs hP hD hS => ?_)
        obtain ⟨g4, h⟩ := gd_some h
        refine va_iast hx hb hK hP hD hS 6 0 rfl rfl g4 dX1_reckon_46 (fun H locs hP hD hS => ?_)
        have hP : va_P D vwCl (w_X1_reckon cyI cyJ cyZ cyB cyO aW aF aW_width aF_above aF_edge aW_goesOn aW_comes aF_kind aW_keeps aF_pool aW_holds aF_store aF_spot vW_kept vW_leaked u3.2.1 u3.2.2 vW_keptInAll vW_leakedInAll vW_ranOffInAll vF_basins vF_spring vF_hour vF_z cW_width cF_above cF_edge cW_goesOn (upd cW_comes y2.toNatClampNeg u3.1) cF_kind cW_keeps cF_pool cW_holds) H := hP
        have hD : va_D A (w_X1_reckon cyI cyJ cyZ cyB cyO aW aF aW_width aF_above aF_edge aW_goesOn aW_comes aF_kind aW_keeps aF_pool aW_holds aF_store aF_spot vW_kept vW_leaked u3.2.1 u3.2.2 vW_keptInAll vW_leakedInAll vW_ranOffInAll vF_basins vF_spring vF_hour vF_z cW_width cF_above cF_edge cW_goesOn (upd cW_comes y2.toNatClampNeg u3.1) cF_kind cW_keeps cF_pool cW_holds) := hD
        refine lv_aload_n hx hb dX1_reckon_47 rfl (lv_at hl 1 rfl) ?_
        refine lv_aload_n hx hb dX1_reckon_48 rfl (lv_at hl 2 rfl) ?_
        refine lv_iload_n hx hb dX1_reckon_49 rfl (lv_at hl 0 rfl) ?_
        obtain ⟨u5, hu5, h⟩ := bd_some h
        refine cl_Vv (rest := []) F hK hP hD hS hA hl (t_X1_divide l D cyI cyJ cyZ cyB cyO aF aF_kind aW aW_comes aW_keeps aF_pool aW_holds aW_goesOn aW_width aF_above aF_edge aF_store aF_spot vF_basins vF_spring vF_hour vF_z cF_kind vW_kept vW_leaked u3.2.1 u3.2.2 vW_keptInAll vW_leakedInAll vW_ranOffInAll (upd cW_comes y2.toNatClampNeg u3.1) cW_keeps cF_pool cW_holds cW_goesOn cW_width y2 u5 hu5) (cwV 2 hts gX1_reckon_X1_divide rfl rfl rfl (by decide +kernel) ⟨Nat.le_of_ble_eq_true rfl, Nat.le_of_ble_eq_true rfl⟩) 0 [1, 7, 0, 6, 8, 9, 10, 5, 2] [3, 1, 9, 0, 0, 8, 4, 2, 5, 6, 7] [] (w_X1_reckon cyI cyJ cyZ cyB cyO aW aF aW_width aF_above aF_edge aW_goesOn aW_comes aF_kind aW_keeps aF_pool aW_holds aF_store aF_spot u5.1 u5.2.1 u5.2.2.1 u5.2.2.2.1 vW_keptInAll vW_leakedInAll vW_ranOffInAll vF_basins vF_spring vF_hour vF_z cW_width cF_above cF_edge u5.2.2.2.2.2.2 (upd cW_comes y2.toNatClampNeg u3.1) cF_kind u5.2.2.2.2.1 cF_pool u5.2.2.2.2.2.1) rfl rfl rfl rfl rfl (by decide +kernel) rfl rfl (Nat.le_of_ble_eq_true rfl) ⟨Nat.zero_le _, Nat.zero_le _⟩ dX1_reckon_50 (fun H locs hP hD hS => ?_)
        refine lv_iinc (v := y2 + 1) (lv' := [(2, .int (y2 + 1)), (0, .ref aW), (1, .ref aF)]) hx hb dX1_reckon_53 hl (k := 0) rfl rfl (by decide) rfl (fun ls hl => ?_)
        refine lv_goto (tgt := 27) hx hb dX1_reckon_56 (by decide) ?_
        exact ih27 (y2 + 1) u5.1 u5.2.1 u5.2.2.1 u5.2.2.2.1 cW_width u5.2.2.2.2.2.2 (upd cW_comes y2.toNatClampNeg u3.1) u5.2.2.2.2.1 u5.2.2.2.2.2.1 _ _ _ hP hD hS (lv_sub hl [0, 1, 2] rfl) h
  exact lp27 FU (0 : Int32) (0 : Int32) (0 : Int32) (0 : Int32) (0 : Int32) u1 cW_goesOn cW_comes cW_keeps cW_holds _ _ _ hP hD hS (lv_sub hl [0, 1, 2] rfl) h
/-! ===== X0_explains ===== -/
def w_X0_explains (cyI cyJ cyZ cyB cyO : ClassId) (aF aE aW aW_keeps aE_numbers aF_kind aF_above aF_edge aF_pool aF_store aF_spot aW_comes aW_holds aW_goesOn aW_width : Nat) (vF_basins : Int32) (vF_spring : Int32) (vF_hour : Int32) (vF_z : Int32) (vE_bits : Int32) (vE_size : Int32) (vW_kept : Int32) (vW_leaked : Int32) (vW_ranOff : Int32) (vW_uneven : Int32) (vW_keptInAll : Int32) (vW_leakedInAll : Int32) (vW_ranOffInAll : Int32) (cW_keeps : Nat → Int32) (cE_numbers : Nat → Int32) : va_W := [(aF, .inr (2, [.ref aF_kind, .ref aF_above, .ref aF_edge, .ref aF_pool, .ref aF_store, .ref aF_spot, .int vF_basins, .int vF_spring, .int vF_hour, .int vF_z])), (aE, .inr (4, [.ref aE_numbers, .int vE_bits, .int vE_size])), (aW, .inr (1, [.ref aW_comes, .ref aW_keeps, .ref aW_holds, .ref aW_goesOn, .ref aW_width, .int vW_kept, .int vW_leaked, .int vW_ranOff, .int vW_uneven, .int vW_keptInAll, .int vW_leakedInAll, .int vW_ranOffInAll])), (aW_keeps, .inl (cyI, 10, .inl cW_keeps)), (aE_numbers, .inl (cyI, 40, .inl cE_numbers))]
set_option maxHeartbeats 4000000 in
set_option maxRecDepth 100000 in
theorem t_X0_explains (l : Launch) (D : va_G) (cyI cyJ cyZ cyB cyO : ClassId) (aF aE aW aW_keeps aE_numbers aF_kind aF_above aF_edge aF_pool aF_store aF_spot aW_comes aW_holds aW_goesOn aW_width : Nat) (vF_basins : Int32) (vF_spring : Int32) (vF_hour : Int32) (vF_z : Int32) (vE_bits : Int32) (vE_size : Int32) (vW_kept : Int32) (vW_leaked : Int32) (vW_ranOff : Int32) (vW_uneven : Int32) (vW_keptInAll : Int32) (vW_leakedInAll : Int32) (vW_ranOffInAll : Int32) (cW_keeps : Nat → Int32) (cE_numbers : Nat → Int32) (out : Int32) (h : f_X0_explains vF_basins vE_size cW_keeps cE_numbers = some out) : Mi l yX0_explains wsX0_explains ({ frames := 0, cells := 0, slots := 0, locals := 0 } : Room) D (tyA cyI cyJ cyZ cyB cyO) [.ref aF, .ref aW, .ref aE] (w_X0_explains cyI cyJ cyZ cyB cyO aF aE aW aW_keeps aE_numbers aF_kind aF_above aF_edge aF_pool aF_store aF_spot aW_comes aW_holds aW_goesOn aW_width vF_basins vF_spring vF_hour vF_z vE_bits vE_size vW_kept vW_leaked vW_ranOff vW_uneven vW_keptInAll vW_leakedInAll vW_ranOffInAll cW_keeps cE_numbers) (w_X0_explains cyI cyJ cyZ cyB cyO aF aE aW aW_keeps aE_numbers aF_kind aF_above aF_edge aF_pool aF_store aF_spot aW_comes aW_holds aW_goesOn aW_width vF_basins vF_spring vF_hour vF_z vE_bits vE_size vW_kept vW_leaked vW_ranOff vW_uneven vW_keptInAll vW_leakedInAll vW_ranOffInAll cW_keeps cE_numbers) out := by
  refine Mi.mk (cc := cX0_explains) (maxL := 4) (rt := .boolean) (own := RX0) (by decide) rfl rfl (Nat.le_of_ble_eq_true rfl) ?_
  intro p e s m args below meth c A Q F hK hP hD hA hret ls hl
  obtain ⟨hx, hb, hml, hown, hts⟩ := id F
  have hS : va_S A s.heap s.heap [] := va_S.rf
  have hl : lv_has ls 4 [(0, .ref aF), (1, .ref aW), (2, .ref aE)] := hl
  have in_X2 : ∀ w ∈ wsX20, w ∈ wsX0_explains := by decide +kernel
  have in_X5 : ∀ w ∈ wsX50, w ∈ wsX0_explains := by decide +kernel
  have in_X1 : ∀ w ∈ wsX10, w ∈ wsX0_explains := by decide +kernel
  have q1 := hts (Cond.fieldLink RX0 21 "ThirdFountain$Fountain" "basins" "I") (List.mem_of_getElem? (i := 1) rfl)
  have q2 := hts (Cond.fieldLink RX0 49 "ThirdFountain$Sheet" "size" "I") (List.mem_of_getElem? (i := 2) rfl)
  have q3 := hts (Cond.fieldLink RX0 54 "ThirdFountain$Flow" "keeps" "[I") (List.mem_of_getElem? (i := 3) rfl)
  have q4 := hts (Cond.fieldLink RX0 57 "ThirdFountain$Sheet" "numbers" "[I") (List.mem_of_getElem? (i := 4) rfl)
  unfold f_X0_explains at h
  refine lv_iconst (v := 0) hx hb dX0_explains_0 (by decide) ?_
  refine lv_istore_n (lv' := [(3, .int (0 : Int32)), (0, .ref aF), (1, .ref aW), (2, .ref aE)]) hx hb dX0_explains_1 rfl hl (by decide) rfl (fun ls hl => ?_)
  have lp2 : ∀ (k2 : Nat) (y3 : Int32) (H : Heap) (locs : List Loc) (ls : Array Slot), va_P D vwCl (w_X0_explains cyI cyJ cyZ cyB cyO aF aE aW aW_keeps aE_numbers aF_kind aF_above aF_edge aF_pool aF_store aF_spot aW_comes aW_holds aW_goesOn aW_width vF_basins vF_spring vF_hour vF_z vE_bits vE_size vW_kept vW_leaked vW_ranOff vW_uneven vW_keptInAll vW_leakedInAll vW_ranOffInAll cW_keeps cE_numbers) H → va_D A (w_X0_explains cyI cyJ cyZ cyB cyO aF aE aW aW_keeps aE_numbers aF_kind aF_above aF_edge aF_pool aF_store aF_spot aW_comes aW_holds aW_goesOn aW_width vF_basins vF_spring vF_hour vF_z vE_bits vE_size vW_kept vW_leaked vW_ranOff vW_uneven vW_keptInAll vW_leakedInAll vW_ranOffInAll cW_keeps cE_numbers) → va_S A s.heap H locs → lv_has ls 4 [(3, .int y3), (0, .ref aF), (1, .ref aW), (2, .ref aE)] → (f_X0_explains_L2 vF_basins vE_size cW_keeps cE_numbers k2) y3 = some out → W p l e ({ frames := 0, cells := 0, slots := 0, locals := 0 } : Room) s m args below meth c H locs 0 0 Q (F0 m 2 ls []) := by
    intro k2
    induction k2 with
    | zero => intro y3 H locs ls hP hD hS hl h; cases h
    | succ k2 ih2 =>
      intro y3 H locs ls hP hD hS hl h
      have h : f_X0_explains_L2_b vF_basins vE_size cW_keeps cE_numbers (f_X0_explains_L2 vF_basins vE_size cW_keeps cE_numbers k2) y3 = some out := h
      unfold f_X0_explains_L2_b at h
      refine lv_iload_n hx hb dX0_explains_2 rfl (lv_at hl 0 rfl) ?_
      refine lv_aload_n hx hb dX0_explains_3 rfl (lv_at hl 1 rfl) ?_
      refine va_get (D := D) (ci := 2) (v := .int vF_basins) (C := RX2) (T := TX2) (N := 10) hx hb hts in_X2 hown hK hP 0 rfl rfl 6 (by decide) q1 (fun _ h9 => h9) rfl dX0_explains_4 ?_
      refine lv_icmp_ge (tgt := 41) hx hb dX0_explains_7 (by decide) (fun c1 => ?_) (fun c1 => ?_)
      · have h := br_pos c1 h
        refine lv_iconst (v := 1) hx hb dX0_explains_41 (by decide) ?_
        obtain rfl := Option.some.inj h
        exact hret _ _ _ _ _ hP hD hS dX0_explains_42 (nz_of (Or.inr rfl)) rfl
      · have h := br_neg c1 h
        refine lv_iload_n hx hb dX0_explains_10 rfl (lv_at hl 0 rfl) ?_
        refine lv_aload_n hx hb dX0_explains_11 rfl (lv_at hl 3 rfl) ?_
        refine va_get (D := D) (ci := 4) (v := .int vE_size) (C := RX5) (T := TX5) (N := 3) hx hb hts in_X5 hown hK hP 1 rfl rfl 2 (by decide) q2 (fun _ h9 => h9) rfl dX0_explains_12 ?_
        refine lv_icmp_ge (tgt := 41) hx hb dX0_explains_15 (by decide) (fun c2 => ?_) (fun c2 => ?_)
        · have h := br_pos c2 h
          refine lv_iconst (v := 1) hx hb dX0_explains_41 (by decide) ?_
          obtain rfl := Option.some.inj h
          exact hret _ _ _ _ _ hP hD hS dX0_explains_42 (nz_of (Or.inr rfl)) rfl
        · have h := br_neg c2 h
          refine lv_aload_n hx hb dX0_explains_18 rfl (lv_at hl 2 rfl) ?_
          refine va_get (D := D) (ci := 1) (v := .ref aW_keeps) (C := RX1) (T := TX1) (N := 12) hx hb hts in_X1 hown hK hP 2 rfl rfl 1 (by decide) q3 (fun _ h9 => h9) rfl dX0_explains_19 ?_
          refine lv_iload_n hx hb dX0_explains_22 rfl (lv_at hl 0 rfl) ?_
          obtain ⟨g3, h⟩ := gd_some h
          refine va_iald hx hb hK hP 3 0 rfl rfl g3 dX0_explains_23 ?_
          refine lv_aload_n hx hb dX0_explains_24 rfl (lv_at hl 3 rfl) ?_
          refine va_get (D := D) (ci := 4) (v := .ref aE_numbers) (C := RX5) (T := TX5) (N := 3) hx hb hts in_X5 hown hK hP 1 rfl rfl 0 (by decide) q4 (fun _ h9 => h9) rfl dX0_explains_25 ?_
          refine lv_iload_n hx hb dX0_explains_28 rfl (lv_at hl 0 rfl) ?_
          obtain ⟨g4, h⟩ := gd_some h
          refine va_iald hx hb hK hP 4 0 rfl rfl g4 dX0_explains_29 ?_
          refine lv_icmp_eq (tgt := 35) hx hb dX0_explains_30 (by decide) (fun c5 => ?_) (fun c5 => ?_)
          · have h := br_pos c5 h
            refine lv_iinc (v := y3 + 1) (lv' := [(3, .int (y3 + 1)), (0, .ref aF), (1, .ref aW), (2, .ref aE)]) hx hb dX0_explains_35 hl (k := 0) rfl rfl (by decide) rfl (fun ls hl => ?_)
            refine lv_goto (tgt := 2) hx hb dX0_explains_38 (by decide) ?_
            exact ih2 (y3 + 1) _ _ _ hP hD hS (lv_sub hl [0, 1, 2, 3] rfl) h
          · have h := br_neg c5 h
            refine lv_iconst (v := 0) hx hb dX0_explains_33 (by decide) ?_
            obtain rfl := Option.some.inj h
            exact hret _ _ _ _ _ hP hD hS dX0_explains_34 (nz_of (Or.inl rfl)) rfl
  exact lp2 FU (0 : Int32) _ _ _ hP hD hS (lv_sub hl [0, 1, 2, 3] rfl) h
/-! ===== X0_note ===== -/
def w_X0_note (cyI cyJ cyZ cyB cyO : ClassId) (aC : Nat) (vC_sets : Int32) (vC_least : Int32) (vC_inAll : Int32) (vC_inAny : Int32) : va_W := [(aC, .inr (0, [.int vC_sets, .int vC_least, .int vC_inAll, .int vC_inAny]))]
set_option maxHeartbeats 4000000 in
set_option maxRecDepth 100000 in
theorem t_X0_note (l : Launch) (D : va_G) (cyI cyJ cyZ cyB cyO : ClassId) (aC : Nat) (vC_sets : Int32) (vC_least : Int32) (vC_inAll : Int32) (vC_inAny : Int32) (x1 : Int32) (out : Int32 × Int32 × Int32 × Int32) (h : f_X0_note x1 vC_sets vC_least vC_inAll vC_inAny = some out) : Mv l yX0_note wsX0_note ({ frames := 0, cells := 0, slots := 0, locals := 0 } : Room) D (tyA cyI cyJ cyZ cyB cyO) [.ref aC, .int x1] (w_X0_note cyI cyJ cyZ cyB cyO aC vC_sets vC_least vC_inAll vC_inAny) (w_X0_note cyI cyJ cyZ cyB cyO aC out.1 out.2.1 out.2.2.1 out.2.2.2) := by
  refine Mv.mk (cc := cX0_note) (maxL := 2) (own := RX0) (by decide) rfl rfl (Nat.le_of_ble_eq_true rfl) ?_
  intro p e s m args below meth c A Q F hK hP hD hA hret ls hl
  obtain ⟨hx, hb, hml, hown, hts⟩ := id F
  have hS : va_S A s.heap s.heap [] := va_S.rf
  have hl : lv_has ls 2 [(0, .ref aC), (1, .int x1)] := hl
  have in_X0 : ∀ w ∈ wsX00, w ∈ wsX0_note := by decide +kernel
  have q1 := hts (Cond.fieldLink RX0 9 "ThirdFountain$ChipSearch" "sets" "I") (List.mem_of_getElem? (i := 1) rfl)
  have q3 := hts (Cond.fieldLink RX0 26 "ThirdFountain$ChipSearch" "inAll" "I") (List.mem_of_getElem? (i := 3) rfl)
  have q4 := hts (Cond.fieldLink RX0 18 "ThirdFountain$ChipSearch" "inAny" "I") (List.mem_of_getElem? (i := 4) rfl)
  have q2 := hts (Cond.fieldLink RX0 15 "ThirdFountain$ChipSearch" "least" "I") (List.mem_of_getElem? (i := 2) rfl)
  unfold f_X0_note at h
  refine lv_aload_n hx hb dX0_note_0 rfl (lv_at hl 0 rfl) ?_
  refine va_get (D := D) (ci := 0) (v := .int vC_sets) (C := RX0) (T := TX0) (N := 4) hx hb hts in_X0 hown hK hP 0 rfl rfl 0 (by decide) q1 (fun _ h9 => h9) rfl dX0_note_1 ?_
  have j12 : ∀ (vC_sets : Int32) (vC_least : Int32) (vC_inAll : Int32) (vC_inAny : Int32) (H : Heap) (locs : List Loc) (ls : Array Slot), va_P D vwCl (w_X0_note cyI cyJ cyZ cyB cyO aC vC_sets vC_least vC_inAll vC_inAny) H → va_D A (w_X0_note cyI cyJ cyZ cyB cyO aC vC_sets vC_least vC_inAll vC_inAny) → va_S A s.heap H locs → lv_has ls 2 [(0, .ref aC), (1, .int x1)] → f_X0_note_J12 x1 vC_sets vC_least vC_inAll vC_inAny = some out → W p l e ({ frames := 0, cells := 0, slots := 0, locals := 0 } : Room) s m args below meth c H locs 0 0 Q (F0 m 12 ls []) := by
    intro vC_sets vC_least vC_inAll vC_inAny H locs ls hP hD hS hl h
    unfold f_X0_note_J12 at h
    refine lv_aload_n hx hb dX0_note_12 rfl (lv_at hl 0 rfl) ?_
    refine lv_dup hx hb dX0_note_13 rfl ?_
    refine va_get (D := D) (ci := 0) (v := .int vC_sets) (C := RX0) (T := TX0) (N := 4) hx hb hts in_X0 hown hK hP 0 rfl rfl 0 (by decide) q1 (fun _ h9 => h9) rfl dX0_note_14 ?_
    refine lv_iconst (v := 1) hx hb dX0_note_17 (by decide) ?_
    refine lv_iadd hx hb dX0_note_18 ?_
    refine va_put (D := D) (ci := 0) (v := .int (vC_sets + (1 : Int32))) (ty := .int) (C := RX0) (T := TX0) (N := 4) hx hb hts in_X0 tyX0 tyX0_ok nmX0 hown hK hP hD hS 0 rfl rfl 0 (by decide) q1 (fun _ h9 => h9) rfl (by decide +kernel) rfl rfl (Nat.le_of_ble_eq_true rfl) dX0_note_19 (fun H locs hP hD hS => ?_)
    have hP : va_P D vwCl (w_X0_note cyI cyJ cyZ cyB cyO aC (vC_sets + (1 : Int32)) vC_least vC_inAll vC_inAny) H := hP
    have hD : va_D A (w_X0_note cyI cyJ cyZ cyB cyO aC (vC_sets + (1 : Int32)) vC_least vC_inAll vC_inAny) := hD
    refine lv_aload_n hx hb dX0_note_22 rfl (lv_at hl 0 rfl) ?_
    refine lv_dup hx hb dX0_note_23 rfl ?_
    refine va_get (D := D) (ci := 0) (v := .int vC_inAll) (C := RX0) (T := TX0) (N := 4) hx hb hts in_X0 hown hK hP 0 rfl rfl 2 (by decide) q3 (fun _ h9 => h9) rfl dX0_note_24 ?_
    refine lv_iload_n hx hb dX0_note_27 rfl (lv_at hl 1 rfl) ?_
    refine lv_iand hx hb dX0_note_28 ?_
    refine va_put (D := D) (ci := 0) (v := .int (vC_inAll &&& x1)) (ty := .int) (C := RX0) (T := TX0) (N := 4) hx hb hts in_X0 tyX0 tyX0_ok nmX0 hown hK hP hD hS 0 rfl rfl 2 (by decide) q3 (fun _ h9 => h9) rfl (by decide +kernel) rfl rfl (Nat.le_of_ble_eq_true rfl) dX0_note_29 (fun H locs hP hD hS => ?_)
    have hP : va_P D vwCl (w_X0_note cyI cyJ cyZ cyB cyO aC (vC_sets + (1 : Int32)) vC_least (vC_inAll &&& x1) vC_inAny) H := hP
    have hD : va_D A (w_X0_note cyI cyJ cyZ cyB cyO aC (vC_sets + (1 : Int32)) vC_least (vC_inAll &&& x1) vC_inAny) := hD
    refine lv_aload_n hx hb dX0_note_32 rfl (lv_at hl 0 rfl) ?_
    refine lv_dup hx hb dX0_note_33 rfl ?_
    refine va_get (D := D) (ci := 0) (v := .int vC_inAny) (C := RX0) (T := TX0) (N := 4) hx hb hts in_X0 hown hK hP 0 rfl rfl 3 (by decide) q4 (fun _ h9 => h9) rfl dX0_note_34 ?_
    refine lv_iload_n hx hb dX0_note_37 rfl (lv_at hl 1 rfl) ?_
    refine lv_ior hx hb dX0_note_38 ?_
    refine va_put (D := D) (ci := 0) (v := .int (vC_inAny ||| x1)) (ty := .int) (C := RX0) (T := TX0) (N := 4) hx hb hts in_X0 tyX0 tyX0_ok nmX0 hown hK hP hD hS 0 rfl rfl 3 (by decide) q4 (fun _ h9 => h9) rfl (by decide +kernel) rfl rfl (Nat.le_of_ble_eq_true rfl) dX0_note_39 (fun H locs hP hD hS => ?_)
    have hP : va_P D vwCl (w_X0_note cyI cyJ cyZ cyB cyO aC (vC_sets + (1 : Int32)) vC_least (vC_inAll &&& x1) (vC_inAny ||| x1)) H := hP
    have hD : va_D A (w_X0_note cyI cyJ cyZ cyB cyO aC (vC_sets + (1 : Int32)) vC_least (vC_inAll &&& x1) (vC_inAny ||| x1)) := hD
    obtain rfl := Option.some.inj h
    exact hret _ _ _ _ hP hD hS dX0_note_42 
  refine lv_if_ne (tgt := 12) hx hb dX0_note_4 (by decide) (fun c1 => ?_) (fun c1 => ?_)
  · have h := br_neg c1 h
    exact j12 vC_sets vC_least vC_inAll vC_inAny _ _ _ hP hD hS (lv_sub hl [0, 1] rfl) h
  · have h := br_pos c1 h
    refine lv_aload_n hx hb dX0_note_7 rfl (lv_at hl 0 rfl) ?_
    refine lv_iload_n hx hb dX0_note_8 rfl (lv_at hl 1 rfl) ?_
    refine va_put (D := D) (ci := 0) (v := .int x1) (ty := .int) (C := RX0) (T := TX0) (N := 4) hx hb hts in_X0 tyX0 tyX0_ok nmX0 hown hK hP hD hS 0 rfl rfl 1 (by decide) q2 (fun _ h9 => h9) rfl (by decide +kernel) rfl rfl (Nat.le_of_ble_eq_true rfl) dX0_note_9 (fun H locs hP hD hS => ?_)
    have hP : va_P D vwCl (w_X0_note cyI cyJ cyZ cyB cyO aC vC_sets x1 vC_inAll vC_inAny) H := hP
    have hD : va_D A (w_X0_note cyI cyJ cyZ cyB cyO aC vC_sets x1 vC_inAll vC_inAny) := hD
    exact j12 vC_sets x1 vC_inAll vC_inAny _ _ _ hP hD hS (lv_sub hl [0, 1] rfl) h
/-! ===== X0_look ===== -/
def w_X0_look (cyI cyJ cyZ cyB cyO : ClassId) (aC aF aF_kind aW aW_width aF_above aF_edge aW_goesOn aW_comes aW_keeps aF_pool aW_holds aE aE_numbers aF_store aF_spot : Nat) (vC_sets : Int32) (vC_least : Int32) (vC_inAll : Int32) (vC_inAny : Int32) (vF_basins : Int32) (vF_spring : Int32) (vF_hour : Int32) (vF_z : Int32) (cF_kind : Nat → Int32) (vW_kept : Int32) (vW_leaked : Int32) (vW_ranOff : Int32) (vW_uneven : Int32) (vW_keptInAll : Int32) (vW_leakedInAll : Int32) (vW_ranOffInAll : Int32) (cW_width : Nat → Int32) (cF_above : Nat → Int32) (cF_edge : Nat → Int32) (cW_goesOn : Nat → Int32) (cW_comes : Nat → Int32) (cW_keeps : Nat → Int32) (cF_pool : Nat → Int32) (cW_holds : Nat → Int32) (vE_bits : Int32) (vE_size : Int32) (cE_numbers : Nat → Int32) : va_W := [(aC, .inr (0, [.int vC_sets, .int vC_least, .int vC_inAll, .int vC_inAny])), (aF, .inr (2, [.ref aF_kind, .ref aF_above, .ref aF_edge, .ref aF_pool, .ref aF_store, .ref aF_spot, .int vF_basins, .int vF_spring, .int vF_hour, .int vF_z])), (aF_kind, .inl (cyI, 10, .inl cF_kind)), (aW, .inr (1, [.ref aW_comes, .ref aW_keeps, .ref aW_holds, .ref aW_goesOn, .ref aW_width, .int vW_kept, .int vW_leaked, .int vW_ranOff, .int vW_uneven, .int vW_keptInAll, .int vW_leakedInAll, .int vW_ranOffInAll])), (aW_width, .inl (cyI, 10, .inl cW_width)), (aF_above, .inl (cyI, 10, .inl cF_above)), (aF_edge, .inl (cyI, 10, .inl cF_edge)), (aW_goesOn, .inl (cyI, 10, .inl cW_goesOn)), (aW_comes, .inl (cyI, 10, .inl cW_comes)), (aW_keeps, .inl (cyI, 10, .inl cW_keeps)), (aF_pool, .inl (cyI, 10, .inl cF_pool)), (aW_holds, .inl (cyI, 10, .inl cW_holds)), (aE, .inr (4, [.ref aE_numbers, .int vE_bits, .int vE_size])), (aE_numbers, .inl (cyI, 40, .inl cE_numbers))]
set_option maxHeartbeats 4000000 in
set_option maxRecDepth 100000 in
theorem t_X0_look (l : Launch) (D : va_G) (cyI cyJ cyZ cyB cyO : ClassId) (aC aF aF_kind aW aW_width aF_above aF_edge aW_goesOn aW_comes aW_keeps aF_pool aW_holds aE aE_numbers aF_store aF_spot : Nat) (vC_sets : Int32) (vC_least : Int32) (vC_inAll : Int32) (vC_inAny : Int32) (vF_basins : Int32) (vF_spring : Int32) (vF_hour : Int32) (vF_z : Int32) (cF_kind : Nat → Int32) (vW_kept : Int32) (vW_leaked : Int32) (vW_ranOff : Int32) (vW_uneven : Int32) (vW_keptInAll : Int32) (vW_leakedInAll : Int32) (vW_ranOffInAll : Int32) (cW_width : Nat → Int32) (cF_above : Nat → Int32) (cF_edge : Nat → Int32) (cW_goesOn : Nat → Int32) (cW_comes : Nat → Int32) (cW_keeps : Nat → Int32) (cF_pool : Nat → Int32) (cW_holds : Nat → Int32) (vE_bits : Int32) (vE_size : Int32) (cE_numbers : Nat → Int32) (out : Int32 × Int32 × Int32 × Int32 × (Nat → Int32) × Int32 × Int32 × Int32 × Int32 × (Nat → Int32) × (Nat → Int32) × (Nat → Int32) × (Nat → Int32) × (Nat → Int32)) (h : f_X0_look vC_sets vC_least vC_inAll vC_inAny vF_basins vF_spring cF_kind vW_kept vW_leaked vW_ranOff vW_uneven cW_width cF_above cF_edge cW_goesOn cW_comes cW_keeps cF_pool cW_holds vE_size cE_numbers = some out) : Mv l yX0_look wsX0_look ({ frames := 4, cells := 0, slots := 0, locals := 90 } : Room) D (tyA cyI cyJ cyZ cyB cyO) [.ref aC, .ref aF, .ref aW, .ref aE] (w_X0_look cyI cyJ cyZ cyB cyO aC aF aF_kind aW aW_width aF_above aF_edge aW_goesOn aW_comes aW_keeps aF_pool aW_holds aE aE_numbers aF_store aF_spot vC_sets vC_least vC_inAll vC_inAny vF_basins vF_spring vF_hour vF_z cF_kind vW_kept vW_leaked vW_ranOff vW_uneven vW_keptInAll vW_leakedInAll vW_ranOffInAll cW_width cF_above cF_edge cW_goesOn cW_comes cW_keeps cF_pool cW_holds vE_bits vE_size cE_numbers) (w_X0_look cyI cyJ cyZ cyB cyO aC aF aF_kind aW aW_width aF_above aF_edge aW_goesOn aW_comes aW_keeps aF_pool aW_holds aE aE_numbers aF_store aF_spot out.1 out.2.1 out.2.2.1 out.2.2.2.1 vF_basins vF_spring vF_hour vF_z out.2.2.2.2.1 out.2.2.2.2.2.1 out.2.2.2.2.2.2.1 out.2.2.2.2.2.2.2.1 out.2.2.2.2.2.2.2.2.1 vW_keptInAll vW_leakedInAll vW_ranOffInAll out.2.2.2.2.2.2.2.2.2.1 cF_above cF_edge out.2.2.2.2.2.2.2.2.2.2.1 out.2.2.2.2.2.2.2.2.2.2.2.1 out.2.2.2.2.2.2.2.2.2.2.2.2.1 cF_pool out.2.2.2.2.2.2.2.2.2.2.2.2.2 vE_bits vE_size cE_numbers) := by
  refine Mv.mk (cc := cX0_look) (maxL := 6) (own := RX0) (by decide) rfl rfl (Nat.le_of_ble_eq_true rfl) ?_
  intro p e s m args below meth c A Q F hK hP hD hA hret ls hl
  obtain ⟨hx, hb, hml, hown, hts⟩ := id F
  have hS : va_S A s.heap s.heap [] := va_S.rf
  have hl : lv_has ls 6 [(0, .ref aC), (1, .ref aF), (2, .ref aW), (3, .ref aE)] := hl
  have in_X0 : ∀ w ∈ wsX00, w ∈ wsX0_look := by decide +kernel
  have in_X2 : ∀ w ∈ wsX20, w ∈ wsX0_look := by decide +kernel
  have q1 := hts (Cond.fieldLink RX0 9 "ThirdFountain$ChipSearch" "sets" "I") (List.mem_of_getElem? (i := 1) rfl)
  have q2 := hts (Cond.fieldLink RX0 15 "ThirdFountain$ChipSearch" "least" "I") (List.mem_of_getElem? (i := 2) rfl)
  have q3 := hts (Cond.fieldLink RX0 18 "ThirdFountain$ChipSearch" "inAny" "I") (List.mem_of_getElem? (i := 3) rfl)
  have q4 := hts (Cond.fieldLink RX0 21 "ThirdFountain$Fountain" "basins" "I") (List.mem_of_getElem? (i := 4) rfl)
  have q5 := hts (Cond.fieldLink RX0 26 "ThirdFountain$ChipSearch" "inAll" "I") (List.mem_of_getElem? (i := 5) rfl)
  have q7 := hts (Cond.methodLink RX0 35 yX1_reckon) (List.mem_of_getElem? (i := 7) rfl)
  have q56 := hts (Cond.methodLink RX0 41 yX0_explains) (List.mem_of_getElem? (i := 56) rfl)
  have q63 := hts (Cond.methodLink RX0 45 yX0_note) (List.mem_of_getElem? (i := 63) rfl)
  have q6 := hts (Cond.fieldLink RX0 29 "ThirdFountain$Fountain" "kind" "[I") (List.mem_of_getElem? (i := 6) rfl)
  unfold f_X0_look at h
  refine lv_aload_n hx hb dX0_look_0 rfl (lv_at hl 0 rfl) ?_
  refine lv_iconst (v := 0) hx hb dX0_look_1 (by decide) ?_
  refine va_put (D := D) (ci := 0) (v := .int (0 : Int32)) (ty := .int) (C := RX0) (T := TX0) (N := 4) hx hb hts in_X0 tyX0 tyX0_ok nmX0 hown hK hP hD hS 0 rfl rfl 0 (by decide) q1 (fun _ h9 => h9) rfl (by decide +kernel) rfl rfl (Nat.le_of_ble_eq_true rfl) dX0_look_2 (fun H locs hP hD hS => ?_)
  have hP : va_P D vwCl (w_X0_look cyI cyJ cyZ cyB cyO aC aF aF_kind aW aW_width aF_above aF_edge aW_goesOn aW_comes aW_keeps aF_pool aW_holds aE aE_numbers aF_store aF_spot (0 : Int32) vC_least vC_inAll vC_inAny vF_basins vF_spring vF_hour vF_z cF_kind vW_kept vW_leaked vW_ranOff vW_uneven vW_keptInAll vW_leakedInAll vW_ranOffInAll cW_width cF_above cF_edge cW_goesOn cW_comes cW_keeps cF_pool cW_holds vE_bits vE_size cE_numbers) H := hP
  have hD : va_D A (w_X0_look cyI cyJ cyZ cyB cyO aC aF aF_kind aW aW_width aF_above aF_edge aW_goesOn aW_comes aW_keeps aF_pool aW_holds aE aE_numbers aF_store aF_spot (0 : Int32) vC_least vC_inAll vC_inAny vF_basins vF_spring vF_hour vF_z cF_kind vW_kept vW_leaked vW_ranOff vW_uneven vW_keptInAll vW_leakedInAll vW_ranOffInAll cW_width cF_above cF_edge cW_goesOn cW_comes cW_keeps cF_pool cW_holds vE_bits vE_size cE_numbers) := hD
  refine lv_aload_n hx hb dX0_look_5 rfl (lv_at hl 0 rfl) ?_
  refine lv_iconst (v := -1) hx hb dX0_look_6 (by decide) ?_
  refine va_put (D := D) (ci := 0) (v := .int (-1 : Int32)) (ty := .int) (C := RX0) (T := TX0) (N := 4) hx hb hts in_X0 tyX0 tyX0_ok nmX0 hown hK hP hD hS 0 rfl rfl 1 (by decide) q2 (fun _ h9 => h9) rfl (by decide +kernel) rfl rfl (Nat.le_of_ble_eq_true rfl) dX0_look_7 (fun H locs hP hD hS => ?_)
  have hP : va_P D vwCl (w_X0_look cyI cyJ cyZ cyB cyO aC aF aF_kind aW aW_width aF_above aF_edge aW_goesOn aW_comes aW_keeps aF_pool aW_holds aE aE_numbers aF_store aF_spot (0 : Int32) (-1 : Int32) vC_inAll vC_inAny vF_basins vF_spring vF_hour vF_z cF_kind vW_kept vW_leaked vW_ranOff vW_uneven vW_keptInAll vW_leakedInAll vW_ranOffInAll cW_width cF_above cF_edge cW_goesOn cW_comes cW_keeps cF_pool cW_holds vE_bits vE_size cE_numbers) H := hP
  have hD : va_D A (w_X0_look cyI cyJ cyZ cyB cyO aC aF aF_kind aW aW_width aF_above aF_edge aW_goesOn aW_comes aW_keeps aF_pool aW_holds aE aE_numbers aF_store aF_spot (0 : Int32) (-1 : Int32) vC_inAll vC_inAny vF_basins vF_spring vF_hour vF_z cF_kind vW_kept vW_leaked vW_ranOff vW_uneven vW_keptInAll vW_leakedInAll vW_ranOffInAll cW_width cF_above cF_edge cW_goesOn cW_comes cW_keeps cF_pool cW_holds vE_bits vE_size cE_numbers) := hD
  refine lv_aload_n hx hb dX0_look_10 rfl (lv_at hl 0 rfl) ?_
  refine lv_iconst (v := 0) hx hb dX0_look_11 (by decide) ?_
  refine va_put (D := D) (ci := 0) (v := .int (0 : Int32)) (ty := .int) (C := RX0) (T := TX0) (N := 4) hx hb hts in_X0 tyX0 tyX0_ok nmX0 hown hK hP hD hS 0 rfl rfl 3 (by decide) q3 (fun _ h9 => h9) rfl (by decide +kernel) rfl rfl (Nat.le_of_ble_eq_true rfl) dX0_look_12 (fun H locs hP hD hS => ?_)
  have hP : va_P D vwCl (w_X0_look cyI cyJ cyZ cyB cyO aC aF aF_kind aW aW_width aF_above aF_edge aW_goesOn aW_comes aW_keeps aF_pool aW_holds aE aE_numbers aF_store aF_spot (0 : Int32) (-1 : Int32) vC_inAll (0 : Int32) vF_basins vF_spring vF_hour vF_z cF_kind vW_kept vW_leaked vW_ranOff vW_uneven vW_keptInAll vW_leakedInAll vW_ranOffInAll cW_width cF_above cF_edge cW_goesOn cW_comes cW_keeps cF_pool cW_holds vE_bits vE_size cE_numbers) H := hP
  have hD : va_D A (w_X0_look cyI cyJ cyZ cyB cyO aC aF aF_kind aW aW_width aF_above aF_edge aW_goesOn aW_comes aW_keeps aF_pool aW_holds aE aE_numbers aF_store aF_spot (0 : Int32) (-1 : Int32) vC_inAll (0 : Int32) vF_basins vF_spring vF_hour vF_z cF_kind vW_kept vW_leaked vW_ranOff vW_uneven vW_keptInAll vW_leakedInAll vW_ranOffInAll cW_width cF_above cF_edge cW_goesOn cW_comes cW_keeps cF_pool cW_holds vE_bits vE_size cE_numbers) := hD
  refine lv_aload_n hx hb dX0_look_15 rfl (lv_at hl 0 rfl) ?_
  refine lv_iconst (v := 1) hx hb dX0_look_16 (by decide) ?_
  refine lv_aload_n hx hb dX0_look_17 rfl (lv_at hl 1 rfl) ?_
  refine va_get (D := D) (ci := 2) (v := .int vF_basins) (C := RX2) (T := TX2) (N := 10) hx hb hts in_X2 hown hK hP 1 rfl rfl 6 (by decide) q4 (fun _ h9 => h9) rfl dX0_look_18 ?_
  refine lv_ishl hx hb dX0_look_21 ?_
  refine lv_iconst (v := 1) hx hb dX0_look_22 (by decide) ?_
  refine lv_isub hx hb dX0_look_23 ?_
  refine va_put (D := D) (ci := 0) (v := .int (((1 : Int32) <<< (vF_basins &&& 31)) - (1 : Int32))) (ty := .int) (C := RX0) (T := TX0) (N := 4) hx hb hts in_X0 tyX0 tyX0_ok nmX0 hown hK hP hD hS 0 rfl rfl 2 (by decide) q5 (fun _ h9 => h9) rfl (by decide +kernel) rfl rfl (Nat.le_of_ble_eq_true rfl) dX0_look_24 (fun H locs hP hD hS => ?_)
  have hP : va_P D vwCl (w_X0_look cyI cyJ cyZ cyB cyO aC aF aF_kind aW aW_width aF_above aF_edge aW_goesOn aW_comes aW_keeps aF_pool aW_holds aE aE_numbers aF_store aF_spot (0 : Int32) (-1 : Int32) (((1 : Int32) <<< (vF_basins &&& 31)) - (1 : Int32)) (0 : Int32) vF_basins vF_spring vF_hour vF_z cF_kind vW_kept vW_leaked vW_ranOff vW_uneven vW_keptInAll vW_leakedInAll vW_ranOffInAll cW_width cF_above cF_edge cW_goesOn cW_comes cW_keeps cF_pool cW_holds vE_bits vE_size cE_numbers) H := hP
  have hD : va_D A (w_X0_look cyI cyJ cyZ cyB cyO aC aF aF_kind aW aW_width aF_above aF_edge aW_goesOn aW_comes aW_keeps aF_pool aW_holds aE aE_numbers aF_store aF_spot (0 : Int32) (-1 : Int32) (((1 : Int32) <<< (vF_basins &&& 31)) - (1 : Int32)) (0 : Int32) vF_basins vF_spring vF_hour vF_z cF_kind vW_kept vW_leaked vW_ranOff vW_uneven vW_keptInAll vW_leakedInAll vW_ranOffInAll cW_width cF_above cF_edge cW_goesOn cW_comes cW_keeps cF_pool cW_holds vE_bits vE_size cE_numbers) := hD
  refine lv_iconst (v := 0) hx hb dX0_look_27 (by decide) ?_
  refine lv_istore (lv' := [(4, .int (0 : Int32)), (0, .ref aC), (1, .ref aF), (2, .ref aW), (3, .ref aE)]) hx hb dX0_look_28 hl (by decide) rfl (fun ls hl => ?_)
  have lp30 : ∀ (k30 : Nat) (y4 : Int32) (vC_sets : Int32) (vC_least : Int32) (vC_inAll : Int32) (vC_inAny : Int32) (cF_kind : Nat → Int32) (vW_kept : Int32) (vW_leaked : Int32) (vW_ranOff : Int32) (vW_uneven : Int32) (cW_width : Nat → Int32) (cW_goesOn : Nat → Int32) (cW_comes : Nat → Int32) (cW_keeps : Nat → Int32) (cW_holds : Nat → Int32) (H : Heap) (locs : List Loc) (ls : Array Slot), va_P D vwCl (w_X0_look cyI cyJ cyZ cyB cyO aC aF aF_kind aW aW_width aF_above aF_edge aW_goesOn aW_comes aW_keeps aF_pool aW_holds aE aE_numbers aF_store aF_spot vC_sets vC_least vC_inAll vC_inAny vF_basins vF_spring vF_hour vF_z cF_kind vW_kept vW_leaked vW_ranOff vW_uneven vW_keptInAll vW_leakedInAll vW_ranOffInAll cW_width cF_above cF_edge cW_goesOn cW_comes cW_keeps cF_pool cW_holds vE_bits vE_size cE_numbers) H → va_D A (w_X0_look cyI cyJ cyZ cyB cyO aC aF aF_kind aW aW_width aF_above aF_edge aW_goesOn aW_comes aW_keeps aF_pool aW_holds aE aE_numbers aF_store aF_spot vC_sets vC_least vC_inAll vC_inAny vF_basins vF_spring vF_hour vF_z cF_kind vW_kept vW_leaked vW_ranOff vW_uneven vW_keptInAll vW_leakedInAll vW_ranOffInAll cW_width cF_above cF_edge cW_goesOn cW_comes cW_keeps cF_pool cW_holds vE_bits vE_size cE_numbers) → va_S A s.heap H locs → lv_has ls 6 [(4, .int y4), (0, .ref aC), (1, .ref aF), (2, .ref aW), (3, .ref aE)] → (f_X0_look_L30 vF_basins vF_spring cF_above cF_edge cF_pool vE_size cE_numbers k30) (y4, vC_sets, vC_least, vC_inAll, vC_inAny, cF_kind, vW_kept, vW_leaked, vW_ranOff, vW_uneven, cW_width, cW_goesOn, cW_comes, cW_keeps, cW_holds) = some out → W p l e ({ frames := 4, cells := 0, slots := 0, locals := 90 } : Room) s m args below meth c H locs 0 0 Q (F0 m 30 ls []) := by
    intro k30
    induction k30 with
    | zero => intro y4 vC_sets vC_least vC_inAll vC_inAny cF_kind vW_kept vW_leaked vW_ranOff vW_uneven cW_width cW_goesOn cW_comes cW_keeps cW_holds H locs ls hP hD hS hl h; cases h
    | succ k30 ih30 =>
      intro y4 vC_sets vC_least vC_inAll vC_inAny cF_kind vW_kept vW_leaked vW_ranOff vW_uneven cW_width cW_goesOn cW_comes cW_keeps cW_holds H locs ls hP hD hS hl h
      have h : f_X0_look_L30_b vF_basins vF_spring cF_above cF_edge cF_pool vE_size cE_numbers (f_X0_look_L30 vF_basins vF_spring cF_above cF_edge cF_pool vE_size cE_numbers k30) y4 vC_sets vC_least vC_inAll vC_inAny cF_kind vW_kept vW_leaked vW_ranOff vW_uneven cW_width cW_goesOn cW_comes cW_keeps cW_holds = some out := h
      unfold f_X0_look_L30_b at h
      refine lv_iload hx hb dX0_look_30 (lv_at hl 0 rfl) ?_
      refine lv_iconst (v := 1) hx hb dX0_look_32 (by decide) ?_
      refine lv_aload_n hx hb dX0_look_33 rfl (lv_at hl 2 rfl) ?_
      refine va_get (D := D) (ci := 2) (v := .int vF_basins) (C := RX2) (T := TX2) (N := 10) hx hb hts in_X2 hown hK hP 1 rfl rfl 6 (by decide) q4 (fun _ h9 => h9) rfl dX0_look_34 ?_
      refine lv_ishl hx hb dX0_look_37 ?_
      refine lv_icmp_ge (tgt := 108) hx hb dX0_look_38 (by decide) (fun c1 => ?_) (fun c1 => ?_)
      · have h := br_pos c1 h
        obtain rfl := Option.some.inj h
        exact hret _ _ _ _ hP hD hS dX0_look_108 
      · have h := br_neg c1 h
        refine lv_iconst (v := 0) hx hb dX0_look_41 (by decide) ?_
        refine lv_istore (lv' := [(5, .int (0 : Int32)), (4, .int y4), (0, .ref aC), (1, .ref aF), (2, .ref aW), (3, .ref aE)]) hx hb dX0_look_42 hl (by decide) rfl (fun ls hl => ?_)
        have lp44 : ∀ (k44 : Nat) (y4 : Int32) (y5 : Int32) (vC_sets : Int32) (vC_least : Int32) (vC_inAll : Int32) (vC_inAny : Int32) (cF_kind : Nat → Int32) (vW_kept : Int32) (vW_leaked : Int32) (vW_ranOff : Int32) (vW_uneven : Int32) (cW_width : Nat → Int32) (cW_goesOn : Nat → Int32) (cW_comes : Nat → Int32) (cW_keeps : Nat → Int32) (cW_holds : Nat → Int32) (H : Heap) (locs : List Loc) (ls : Array Slot), va_P D vwCl (w_X0_look cyI cyJ cyZ cyB cyO aC aF aF_kind aW aW_width aF_above aF_edge aW_goesOn aW_comes aW_keeps aF_pool aW_holds aE aE_numbers aF_store aF_spot vC_sets vC_least vC_inAll vC_inAny vF_basins vF_spring vF_hour vF_z cF_kind vW_kept vW_leaked vW_ranOff vW_uneven vW_keptInAll vW_leakedInAll vW_ranOffInAll cW_width cF_above cF_edge cW_goesOn cW_comes cW_keeps cF_pool cW_holds vE_bits vE_size cE_numbers) H → va_D A (w_X0_look cyI cyJ cyZ cyB cyO aC aF aF_kind aW aW_width aF_above aF_edge aW_goesOn aW_comes aW_keeps aF_pool aW_holds aE aE_numbers aF_store aF_spot vC_sets vC_least vC_inAll vC_inAny vF_basins vF_spring vF_hour vF_z cF_kind vW_kept vW_leaked vW_ranOff vW_uneven vW_keptInAll vW_leakedInAll vW_ranOffInAll cW_width cF_above cF_edge cW_goesOn cW_comes cW_keeps cF_pool cW_holds vE_bits vE_size cE_numbers) → va_S A s.heap H locs → lv_has ls 6 [(4, .int y4), (5, .int y5), (0, .ref aC), (1, .ref aF), (2, .ref aW), (3, .ref aE)] → (f_X0_look_L44 vF_basins vF_spring cF_above cF_edge cF_pool vE_size cE_numbers (f_X0_look_L30 vF_basins vF_spring cF_above cF_edge cF_pool vE_size cE_numbers k30) k44) (y4, y5, vC_sets, vC_least, vC_inAll, vC_inAny, cF_kind, vW_kept, vW_leaked, vW_ranOff, vW_uneven, cW_width, cW_goesOn, cW_comes, cW_keeps, cW_holds) = some out → W p l e ({ frames := 4, cells := 0, slots := 0, locals := 90 } : Room) s m args below meth c H locs 0 0 Q (F0 m 44 ls []) := by
          intro k44
          induction k44 with
          | zero => intro y4 y5 vC_sets vC_least vC_inAll vC_inAny cF_kind vW_kept vW_leaked vW_ranOff vW_uneven cW_width cW_goesOn cW_comes cW_keeps cW_holds H locs ls hP hD hS hl h; cases h
          | succ k44 ih44 =>
            intro y4 y5 vC_sets vC_least vC_inAll vC_inAny cF_kind vW_kept vW_leaked vW_ranOff vW_uneven cW_width cW_goesOn cW_comes cW_keeps cW_holds H locs ls hP hD hS hl h
            have h : f_X0_look_L44_b vF_basins vF_spring cF_above cF_edge cF_pool vE_size cE_numbers (f_X0_look_L30 vF_basins vF_spring cF_above cF_edge cF_pool vE_size cE_numbers k30) (f_X0_look_L44 vF_basins vF_spring cF_above cF_edge cF_pool vE_size cE_numbers (f_X0_look_L30 vF_basins vF_spring cF_above cF_edge cF_pool vE_size cE_numbers k30) k44) y4 y5 vC_sets vC_least vC_inAll vC_inAny cF_kind vW_kept vW_leaked vW_ranOff vW_uneven cW_width cW_goesOn cW_comes cW_keeps cW_holds = some out := h
            unfold f_X0_look_L44_b at h
            refine lv_iload hx hb dX0_look_44 (lv_at hl 1 rfl) ?_
            refine lv_aload_n hx hb dX0_look_46 rfl (lv_at hl 3 rfl) ?_
            refine va_get (D := D) (ci := 2) (v := .int vF_basins) (C := RX2) (T := TX2) (N := 10) hx hb hts in_X2 hown hK hP 1 rfl rfl 6 (by decide) q4 (fun _ h9 => h9) rfl dX0_look_47 ?_
            have j82 : ∀ (y4 : Int32) (vC_sets : Int32) (vC_least : Int32) (vC_inAll : Int32) (vC_inAny : Int32) (cF_kind : Nat → Int32) (vW_kept : Int32) (vW_leaked : Int32) (vW_ranOff : Int32) (vW_uneven : Int32) (cW_width : Nat → Int32) (cW_goesOn : Nat → Int32) (cW_comes : Nat → Int32) (cW_keeps : Nat → Int32) (cW_holds : Nat → Int32) (H : Heap) (locs : List Loc) (ls : Array Slot), va_P D vwCl (w_X0_look cyI cyJ cyZ cyB cyO aC aF aF_kind aW aW_width aF_above aF_edge aW_goesOn aW_comes aW_keeps aF_pool aW_holds aE aE_numbers aF_store aF_spot vC_sets vC_least vC_inAll vC_inAny vF_basins vF_spring vF_hour vF_z cF_kind vW_kept vW_leaked vW_ranOff vW_uneven vW_keptInAll vW_leakedInAll vW_ranOffInAll cW_width cF_above cF_edge cW_goesOn cW_comes cW_keeps cF_pool cW_holds vE_bits vE_size cE_numbers) H → va_D A (w_X0_look cyI cyJ cyZ cyB cyO aC aF aF_kind aW aW_width aF_above aF_edge aW_goesOn aW_comes aW_keeps aF_pool aW_holds aE aE_numbers aF_store aF_spot vC_sets vC_least vC_inAll vC_inAny vF_basins vF_spring vF_hour vF_z cF_kind vW_kept vW_leaked vW_ranOff vW_uneven vW_keptInAll vW_leakedInAll vW_ranOffInAll cW_width cF_above cF_edge cW_goesOn cW_comes cW_keeps cF_pool cW_holds vE_bits vE_size cE_numbers) → va_S A s.heap H locs → lv_has ls 6 [(4, .int y4), (0, .ref aC), (1, .ref aF), (2, .ref aW), (3, .ref aE)] → f_X0_look_J82 vF_basins vF_spring cF_above cF_edge cF_pool vE_size cE_numbers (f_X0_look_L30 vF_basins vF_spring cF_above cF_edge cF_pool vE_size cE_numbers k30) y4 vC_sets vC_least vC_inAll vC_inAny cF_kind vW_kept vW_leaked vW_ranOff vW_uneven cW_width cW_goesOn cW_comes cW_keeps cW_holds = some out → W p l e ({ frames := 4, cells := 0, slots := 0, locals := 90 } : Room) s m args below meth c H locs 0 0 Q (F0 m 82 ls []) := by
              intro y4 vC_sets vC_least vC_inAll vC_inAny cF_kind vW_kept vW_leaked vW_ranOff vW_uneven cW_width cW_goesOn cW_comes cW_keeps cW_holds H locs ls hP hD hS hl h
              unfold f_X0_look_J82 at h
              refine lv_aload_n hx hb dX0_look_82 rfl (lv_at hl 3 rfl) ?_
              refine lv_aload_n hx hb dX0_look_83 rfl (lv_at hl 2 rfl) ?_
              obtain ⟨u2, hu2, h⟩ := bd_some h
              refine cl_Vv (rest := []) F hK hP hD hS hA hl (t_X1_reckon l D cyI cyJ cyZ cyB cyO aW aF aW_width aF_above aF_edge aW_goesOn aW_comes aF_kind aW_keeps aF_pool aW_holds aF_store aF_spot vW_kept vW_leaked vW_ranOff vW_uneven vW_keptInAll vW_leakedInAll vW_ranOffInAll vF_basins vF_spring vF_hour vF_z cW_width cF_above cF_edge cW_goesOn cW_comes cF_kind cW_keeps cF_pool cW_holds u2 hu2) (cwV 1 hts gX0_look_X1_reckon rfl rfl rfl (by decide +kernel) ⟨Nat.le_of_ble_eq_true rfl, Nat.le_of_ble_eq_true rfl⟩) 3 [3, 1, 4, 5, 6, 7, 8, 2, 9, 10, 11] [0, 2, 8, 1, 3, 4, 5, 6, 7, 9, 10, 11, 0, 0] [] (w_X0_look cyI cyJ cyZ cyB cyO aC aF aF_kind aW aW_width aF_above aF_edge aW_goesOn aW_comes aW_keeps aF_pool aW_holds aE aE_numbers aF_store aF_spot vC_sets vC_least vC_inAll vC_inAny vF_basins vF_spring vF_hour vF_z cF_kind u2.1 u2.2.1 u2.2.2.1 u2.2.2.2.1 vW_keptInAll vW_leakedInAll vW_ranOffInAll u2.2.2.2.2.1 cF_above cF_edge u2.2.2.2.2.2.1 u2.2.2.2.2.2.2.1 u2.2.2.2.2.2.2.2.1 cF_pool u2.2.2.2.2.2.2.2.2 vE_bits vE_size cE_numbers) rfl rfl rfl rfl rfl (by decide +kernel) rfl rfl (Nat.le_of_ble_eq_true rfl) ⟨Nat.zero_le _, Nat.zero_le _⟩ dX0_look_84 (fun H locs hP hD hS => ?_)
              refine lv_aload_n hx hb dX0_look_87 rfl (lv_at hl 2 rfl) ?_
              refine lv_aload_n hx hb dX0_look_88 rfl (lv_at hl 3 rfl) ?_
              refine lv_aload_n hx hb dX0_look_89 rfl (lv_at hl 4 rfl) ?_
              obtain ⟨u3, hu3, h⟩ := bd_some h
              refine cl_Si (rest := []) F hK hP hD hS hA hl (t_X0_explains l D cyI cyJ cyZ cyB cyO aF aE aW aW_keeps aE_numbers aF_kind aF_above aF_edge aF_pool aF_store aF_spot aW_comes aW_holds aW_goesOn aW_width vF_basins vF_spring vF_hour vF_z vE_bits vE_size u2.1 u2.2.1 u2.2.2.1 u2.2.2.2.1 vW_keptInAll vW_leakedInAll vW_ranOffInAll u2.2.2.2.2.2.2.2.1 cE_numbers u3 hu3) (va_cwS 3 hts gX0_look_X0_explains rfl rfl rfl (by decide +kernel) ⟨Nat.le_of_ble_eq_true rfl, Nat.le_of_ble_eq_true rfl⟩) [1, 12, 3, 9, 13] [0, 1, 0, 3, 0, 0, 0, 0, 0, 4, 0, 0, 2, 5] [] (w_X0_look cyI cyJ cyZ cyB cyO aC aF aF_kind aW aW_width aF_above aF_edge aW_goesOn aW_comes aW_keeps aF_pool aW_holds aE aE_numbers aF_store aF_spot vC_sets vC_least vC_inAll vC_inAny vF_basins vF_spring vF_hour vF_z cF_kind u2.1 u2.2.1 u2.2.2.1 u2.2.2.2.1 vW_keptInAll vW_leakedInAll vW_ranOffInAll u2.2.2.2.2.1 cF_above cF_edge u2.2.2.2.2.2.1 u2.2.2.2.2.2.2.1 u2.2.2.2.2.2.2.2.1 cF_pool u2.2.2.2.2.2.2.2.2 vE_bits vE_size cE_numbers) rfl rfl rfl (by decide +kernel) rfl rfl (Nat.le_of_ble_eq_true rfl) ⟨Nat.zero_le _, Nat.zero_le _⟩ dX0_look_90 (fun H locs hP hD hS => ?_)
              refine lv_if_eq (tgt := 102) hx hb dX0_look_93 (by decide) (fun c4 => ?_) (fun c4 => ?_)
              · have h := br_pos c4 h
                refine lv_iinc (v := y4 + 1) (lv' := [(4, .int (y4 + 1)), (0, .ref aC), (1, .ref aF), (2, .ref aW), (3, .ref aE)]) hx hb dX0_look_102 hl (k := 0) rfl rfl (by decide) rfl (fun ls hl => ?_)
                refine lv_goto (tgt := 30) hx hb dX0_look_105 (by decide) ?_
                exact ih30 (y4 + 1) vC_sets vC_least vC_inAll vC_inAny cF_kind u2.1 u2.2.1 u2.2.2.1 u2.2.2.2.1 u2.2.2.2.2.1 u2.2.2.2.2.2.1 u2.2.2.2.2.2.2.1 u2.2.2.2.2.2.2.2.1 u2.2.2.2.2.2.2.2.2 _ _ _ hP hD hS (lv_sub hl [0, 1, 2, 3, 4] rfl) h
              · have h := br_neg c4 h
                refine lv_aload_n hx hb dX0_look_96 rfl (lv_at hl 1 rfl) ?_
                refine lv_iload hx hb dX0_look_97 (lv_at hl 0 rfl) ?_
                obtain ⟨u5, hu5, h⟩ := bd_some h
                refine cl_Vv (rest := []) F hK hP hD hS hA hl (t_X0_note l D cyI cyJ cyZ cyB cyO aC vC_sets vC_least vC_inAll vC_inAny y4 u5 hu5) (cwV 1 hts gX0_look_X0_note rfl rfl rfl (by decide +kernel) ⟨Nat.le_of_ble_eq_true rfl, Nat.le_of_ble_eq_true rfl⟩) 0 [0] [1, 0, 0, 0, 0, 0, 0, 0, 0, 0, 0, 0, 0, 0] [] (w_X0_look cyI cyJ cyZ cyB cyO aC aF aF_kind aW aW_width aF_above aF_edge aW_goesOn aW_comes aW_keeps aF_pool aW_holds aE aE_numbers aF_store aF_spot u5.1 u5.2.1 u5.2.2.1 u5.2.2.2 vF_basins vF_spring vF_hour vF_z cF_kind u2.1 u2.2.1 u2.2.2.1 u2.2.2.2.1 vW_keptInAll vW_leakedInAll vW_ranOffInAll u2.2.2.2.2.1 cF_above cF_edge u2.2.2.2.2.2.1 u2.2.2.2.2.2.2.1 u2.2.2.2.2.2.2.2.1 cF_pool u2.2.2.2.2.2.2.2.2 vE_bits vE_size cE_numbers) rfl rfl rfl rfl rfl (by decide +kernel) rfl rfl (Nat.le_of_ble_eq_true rfl) ⟨Nat.zero_le _, Nat.zero_le _⟩ dX0_look_99 (fun H locs hP hD hS => ?_)
                refine lv_iinc (v := y4 + 1) (lv' := [(4, .int (y4 + 1)), (0, .ref aC), (1, .ref aF), (2, .ref aW), (3, .ref aE)]) hx hb dX0_look_102 hl (k := 0) rfl rfl (by decide) rfl (fun ls hl => ?_)
                refine lv_goto (tgt := 30) hx hb dX0_look_105 (by decide) ?_
                exact ih30 (y4 + 1) u5.1 u5.2.1 u5.2.2.1 u5.2.2.2 cF_kind u2.1 u2.2.1 u2.2.2.1 u2.2.2.2.1 u2.2.2.2.2.1 u2.2.2.2.2.2.1 u2.2.2.2.2.2.2.1 u2.2.2.2.2.2.2.2.1 u2.2.2.2.2.2.2.2.2 _ _ _ hP hD hS (lv_sub hl [0, 1, 2, 3, 4] rfl) h
            refine lv_icmp_ge (tgt := 82) hx hb dX0_look_50 (by decide) (fun c6 => ?_) (fun c6 => ?_)
            · have h := br_pos c6 h
              exact j82 y4 vC_sets vC_least vC_inAll vC_inAny cF_kind vW_kept vW_leaked vW_ranOff vW_uneven cW_width cW_goesOn cW_comes cW_keeps cW_holds _ _ _ hP hD hS (lv_sub hl [0, 2, 3, 4, 5] rfl) h
            · have h := br_neg c6 h
              refine lv_aload_n hx hb dX0_look_53 rfl (lv_at hl 3 rfl) ?_
              refine va_get (D := D) (ci := 2) (v := .ref aF_kind) (C := RX2) (T := TX2) (N := 10) hx hb hts in_X2 hown hK hP 1 rfl rfl 0 (by decide) q6 (fun _ h9 => h9) rfl dX0_look_54 ?_
              refine lv_iload hx hb dX0_look_57 (lv_at hl 1 rfl) ?_
              refine lv_iload hx hb dX0_look_59 (lv_at hl 0 rfl) ?_
              refine lv_iload hx hb dX0_look_61 (lv_at hl 1 rfl) ?_
              refine lv_ishr hx hb dX0_look_63 ?_
              refine lv_iconst (v := 1) hx hb dX0_look_64 (by decide) ?_
              refine lv_iand hx hb dX0_look_65 ?_
              refine lv_iconst (v := 1) hx hb dX0_look_66 (by decide) ?_
              refine lv_icmp_ne (tgt := 74) hx hb dX0_look_67 (by decide) (fun c7 => ?_) (fun c7 => ?_)
              · have h := br_neg c7 h
                refine lv_iconst (v := 0) hx hb dX0_look_74 (by decide) ?_
                obtain ⟨g8, h⟩ := gd_some h
                refine va_iast hx hb hK hP hD hS 2 0 rfl rfl g8 dX0_look_75 (fun H locs hP hD hS => ?_)
                have hP : va_P D vwCl (w_X0_look cyI cyJ cyZ cyB cyO aC aF aF_kind aW aW_width aF_above aF_edge aW_goesOn aW_comes aW_keeps aF_pool aW_holds aE aE_numbers aF_store aF_spot vC_sets vC_least vC_inAll vC_inAny vF_basins vF_spring vF_hour vF_z (upd cF_kind y5.toNatClampNeg (0 : Int32)) vW_kept vW_leaked vW_ranOff vW_uneven vW_keptInAll vW_leakedInAll vW_ranOffInAll cW_width cF_above cF_edge cW_goesOn cW_comes cW_keeps cF_pool cW_holds vE_bits vE_size cE_numbers) H := hP
                have hD : va_D A (w_X0_look cyI cyJ cyZ cyB cyO aC aF aF_kind aW aW_width aF_above aF_edge aW_goesOn aW_comes aW_keeps aF_pool aW_holds aE aE_numbers aF_store aF_spot vC_sets vC_least vC_inAll vC_inAny vF_basins vF_spring vF_hour vF_z (upd cF_kind y5.toNatClampNeg (0 : Int32)) vW_kept vW_leaked vW_ranOff vW_uneven vW_keptInAll vW_leakedInAll vW_ranOffInAll cW_width cF_above cF_edge cW_goesOn cW_comes cW_keeps cF_pool cW_holds vE_bits vE_size cE_numbers) := hD
                refine lv_iinc (v := y5 + 1) (lv' := [(5, .int (y5 + 1)), (4, .int y4), (0, .ref aC), (1, .ref aF), (2, .ref aW), (3, .ref aE)]) hx hb dX0_look_76 hl (k := 1) rfl rfl (by decide) rfl (fun ls hl => ?_)
                refine lv_goto (tgt := 44) hx hb dX0_look_79 (by decide) ?_
                exact ih44 y4 (y5 + 1) vC_sets vC_least vC_inAll vC_inAny (upd cF_kind y5.toNatClampNeg (0 : Int32)) vW_kept vW_leaked vW_ranOff vW_uneven cW_width cW_goesOn cW_comes cW_keeps cW_holds _ _ _ hP hD hS (lv_sub hl [1, 0, 2, 3, 4, 5] rfl) h
              · have h := br_pos c7 h
                refine lv_iconst (v := 1) hx hb dX0_look_70 (by decide) ?_
                refine lv_goto (tgt := 75) hx hb dX0_look_71 (by decide) ?_
                obtain ⟨g9, h⟩ := gd_some h
                refine va_iast hx hb hK hP hD hS 2 0 rfl rfl g9 dX0_look_75 (fun H locs hP hD hS => ?_)
                have hP : va_P D vwCl (w_X0_look cyI cyJ cyZ cyB cyO aC aF aF_kind aW aW_width aF_above aF_edge aW_goesOn aW_comes aW_keeps aF_pool aW_holds aE aE_numbers aF_store aF_spot vC_sets vC_least vC_inAll vC_inAny vF_basins vF_spring vF_hour vF_z (upd cF_kind y5.toNatClampNeg (1 : Int32)) vW_kept vW_leaked vW_ranOff vW_uneven vW_keptInAll vW_leakedInAll vW_ranOffInAll cW_width cF_above cF_edge cW_goesOn cW_comes cW_keeps cF_pool cW_holds vE_bits vE_size cE_numbers) H := hP
                have hD : va_D A (w_X0_look cyI cyJ cyZ cyB cyO aC aF aF_kind aW aW_width aF_above aF_edge aW_goesOn aW_comes aW_keeps aF_pool aW_holds aE aE_numbers aF_store aF_spot vC_sets vC_least vC_inAll vC_inAny vF_basins vF_spring vF_hour vF_z (upd cF_kind y5.toNatClampNeg (1 : Int32)) vW_kept vW_leaked vW_ranOff vW_uneven vW_keptInAll vW_leakedInAll vW_ranOffInAll cW_width cF_above cF_edge cW_goesOn cW_comes cW_keeps cF_pool cW_holds vE_bits vE_size cE_numbers) := hD
                refine lv_iinc (v := y5 + 1) (lv' := [(5, .int (y5 + 1)), (4, .int y4), (0, .ref aC), (1, .ref aF), (2, .ref aW), (3, .ref aE)]) hx hb dX0_look_76 hl (k := 1) rfl rfl (by decide) rfl (fun ls hl => ?_)
                refine lv_goto (tgt := 44) hx hb dX0_look_79 (by decide) ?_
                exact ih44 y4 (y5 + 1) vC_sets vC_least vC_inAll vC_inAny (upd cF_kind y5.toNatClampNeg (1 : Int32)) vW_kept vW_leaked vW_ranOff vW_uneven cW_width cW_goesOn cW_comes cW_keeps cW_holds _ _ _ hP hD hS (lv_sub hl [1, 0, 2, 3, 4, 5] rfl) h
        exact lp44 FU y4 (0 : Int32) vC_sets vC_least vC_inAll vC_inAny cF_kind vW_kept vW_leaked vW_ranOff vW_uneven cW_width cW_goesOn cW_comes cW_keeps cW_holds _ _ _ hP hD hS (lv_sub hl [1, 0, 2, 3, 4, 5] rfl) h
  exact lp30 FU (0 : Int32) (0 : Int32) (-1 : Int32) (((1 : Int32) <<< (vF_basins &&& 31)) - (1 : Int32)) (0 : Int32) cF_kind vW_kept vW_leaked vW_ranOff vW_uneven cW_width cW_goesOn cW_comes cW_keeps cW_holds _ _ _ hP hD hS (lv_sub hl [0, 1, 2, 3, 4] rfl) h
/-! ===== X2_take ===== -/
def w_X2_take (cyI cyJ cyZ cyB cyO : ClassId) (aF aF_store aW aW_keeps aF_pool aW_holds aF_kind aF_above aF_edge aF_spot aW_comes aW_goesOn aW_width : Nat) (vF_basins : Int32) (vF_spring : Int32) (vF_hour : Int32) (vF_z : Int32) (cF_store : Nat → Int32) (vW_kept : Int32) (vW_leaked : Int32) (vW_ranOff : Int32) (vW_uneven : Int32) (vW_keptInAll : Int32) (vW_leakedInAll : Int32) (vW_ranOffInAll : Int32) (cW_keeps : Nat → Int32) (cF_pool : Nat → Int32) (cW_holds : Nat → Int32) : va_W := [(aF, .inr (2, [.ref aF_kind, .ref aF_above, .ref aF_edge, .ref aF_pool, .ref aF_store, .ref aF_spot, .int vF_basins, .int vF_spring, .int vF_hour, .int vF_z])), (aF_store, .inl (cyI, 10, .inl cF_store)), (aW, .inr (1, [.ref aW_comes, .ref aW_keeps, .ref aW_holds, .ref aW_goesOn, .ref aW_width, .int vW_kept, .int vW_leaked, .int vW_ranOff, .int vW_uneven, .int vW_keptInAll, .int vW_leakedInAll, .int vW_ranOffInAll])), (aW_keeps, .inl (cyI, 10, .inl cW_keeps)), (aF_pool, .inl (cyI, 10, .inl cF_pool)), (aW_holds, .inl (cyI, 10, .inl cW_holds))]
set_option maxHeartbeats 4000000 in
set_option maxRecDepth 100000 in
theorem t_X2_take (l : Launch) (D : va_G) (cyI cyJ cyZ cyB cyO : ClassId) (aF aF_store aW aW_keeps aF_pool aW_holds aF_kind aF_above aF_edge aF_spot aW_comes aW_goesOn aW_width : Nat) (vF_basins : Int32) (vF_spring : Int32) (vF_hour : Int32) (vF_z : Int32) (cF_store : Nat → Int32) (vW_kept : Int32) (vW_leaked : Int32) (vW_ranOff : Int32) (vW_uneven : Int32) (vW_keptInAll : Int32) (vW_leakedInAll : Int32) (vW_ranOffInAll : Int32) (cW_keeps : Nat → Int32) (cF_pool : Nat → Int32) (cW_holds : Nat → Int32) (out : Int32 × (Nat → Int32) × (Nat → Int32)) (h : f_X2_take vF_basins vF_hour cF_store cW_keeps cF_pool cW_holds = some out) : Mv l yX2_take wsX2_take ({ frames := 0, cells := 0, slots := 0, locals := 0 } : Room) D (tyA cyI cyJ cyZ cyB cyO) [.ref aF, .ref aW] (w_X2_take cyI cyJ cyZ cyB cyO aF aF_store aW aW_keeps aF_pool aW_holds aF_kind aF_above aF_edge aF_spot aW_comes aW_goesOn aW_width vF_basins vF_spring vF_hour vF_z cF_store vW_kept vW_leaked vW_ranOff vW_uneven vW_keptInAll vW_leakedInAll vW_ranOffInAll cW_keeps cF_pool cW_holds) (w_X2_take cyI cyJ cyZ cyB cyO aF aF_store aW aW_keeps aF_pool aW_holds aF_kind aF_above aF_edge aF_spot aW_comes aW_goesOn aW_width vF_basins vF_spring out.1 vF_z out.2.1 vW_kept vW_leaked vW_ranOff vW_uneven vW_keptInAll vW_leakedInAll vW_ranOffInAll cW_keeps out.2.2 cW_holds) := by
  refine Mv.mk (cc := cX2_take) (maxL := 3) (own := RX2) (by decide) rfl rfl (Nat.le_of_ble_eq_true rfl) ?_
  intro p e s m args below meth c A Q F hK hP hD hA hret ls hl
  obtain ⟨hx, hb, hml, hown, hts⟩ := id F
  have hS : va_S A s.heap s.heap [] := va_S.rf
  have hl : lv_has ls 3 [(0, .ref aF), (1, .ref aW)] := hl
  have in_X2 : ∀ w ∈ wsX20, w ∈ wsX2_take := by decide +kernel
  have in_X1 : ∀ w ∈ wsX10, w ∈ wsX2_take := by decide +kernel
  have q1 := hts (Cond.fieldLink RX2 43 "ThirdFountain$Fountain" "basins" "I") (List.mem_of_getElem? (i := 1) rfl)
  have q6 := hts (Cond.fieldLink RX2 46 "ThirdFountain$Fountain" "hour" "I") (List.mem_of_getElem? (i := 6) rfl)
  have q2 := hts (Cond.fieldLink RX2 24 "ThirdFountain$Fountain" "store" "[I") (List.mem_of_getElem? (i := 2) rfl)
  have q3 := hts (Cond.fieldLink RX2 50 "ThirdFountain$Flow" "keeps" "[I") (List.mem_of_getElem? (i := 3) rfl)
  have q4 := hts (Cond.fieldLink RX2 21 "ThirdFountain$Fountain" "pool" "[I") (List.mem_of_getElem? (i := 4) rfl)
  have q5 := hts (Cond.fieldLink RX2 55 "ThirdFountain$Flow" "holds" "[I") (List.mem_of_getElem? (i := 5) rfl)
  unfold f_X2_take at h
  refine lv_iconst (v := 0) hx hb dX2_take_0 (by decide) ?_
  refine lv_istore_n (lv' := [(2, .int (0 : Int32)), (0, .ref aF), (1, .ref aW)]) hx hb dX2_take_1 rfl hl (by decide) rfl (fun ls hl => ?_)
  have lp2 : ∀ (k2 : Nat) (y2 : Int32) (vF_hour : Int32) (cF_store : Nat → Int32) (cF_pool : Nat → Int32) (H : Heap) (locs : List Loc) (ls : Array Slot), va_P D vwCl (w_X2_take cyI cyJ cyZ cyB cyO aF aF_store aW aW_keeps aF_pool aW_holds aF_kind aF_above aF_edge aF_spot aW_comes aW_goesOn aW_width vF_basins vF_spring vF_hour vF_z cF_store vW_kept vW_leaked vW_ranOff vW_uneven vW_keptInAll vW_leakedInAll vW_ranOffInAll cW_keeps cF_pool cW_holds) H → va_D A (w_X2_take cyI cyJ cyZ cyB cyO aF aF_store aW aW_keeps aF_pool aW_holds aF_kind aF_above aF_edge aF_spot aW_comes aW_goesOn aW_width vF_basins vF_spring vF_hour vF_z cF_store vW_kept vW_leaked vW_ranOff vW_uneven vW_keptInAll vW_leakedInAll vW_ranOffInAll cW_keeps cF_pool cW_holds) → va_S A s.heap H locs → lv_has ls 3 [(2, .int y2), (0, .ref aF), (1, .ref aW)] → (f_X2_take_L2 vF_basins cW_keeps cW_holds k2) (y2, vF_hour, cF_store, cF_pool) = some out → W p l e ({ frames := 0, cells := 0, slots := 0, locals := 0 } : Room) s m args below meth c H locs 0 0 Q (F0 m 2 ls []) := by
    intro k2
    induction k2 with
    | zero => intro y2 vF_hour cF_store cF_pool H locs ls hP hD hS hl h; cases h
    | succ k2 ih2 =>
      intro y2 vF_hour cF_store cF_pool H locs ls hP hD hS hl h
      have h : f_X2_take_L2_b vF_basins cW_keeps cW_holds (f_X2_take_L2 vF_basins cW_keeps cW_holds k2) y2 vF_hour cF_store cF_pool = some out := h
      unfold f_X2_take_L2_b at h
      refine lv_iload_n hx hb dX2_take_2 rfl (lv_at hl 0 rfl) ?_
      refine lv_aload_n hx hb dX2_take_3 rfl (lv_at hl 1 rfl) ?_
      refine va_get (D := D) (ci := 2) (v := .int vF_basins) (C := RX2) (T := TX2) (N := 10) hx hb hts in_X2 hown hK hP 0 rfl rfl 6 (by decide) q1 (fun _ h9 => h9) rfl dX2_take_4 ?_
      refine lv_icmp_ge (tgt := 46) hx hb dX2_take_7 (by decide) (fun c1 => ?_) (fun c1 => ?_)
      · have h := br_pos c1 h
        refine lv_aload_n hx hb dX2_take_46 rfl (lv_at hl 1 rfl) ?_
        refine lv_dup hx hb dX2_take_47 rfl ?_
        refine va_get (D := D) (ci := 2) (v := .int vF_hour) (C := RX2) (T := TX2) (N := 10) hx hb hts in_X2 hown hK hP 0 rfl rfl 8 (by decide) q6 (fun _ h9 => h9) rfl dX2_take_48 ?_
        refine lv_iconst (v := 1) hx hb dX2_take_51 (by decide) ?_
        refine lv_iadd hx hb dX2_take_52 ?_
        refine va_put (D := D) (ci := 2) (v := .int (vF_hour + (1 : Int32))) (ty := .int) (C := RX2) (T := TX2) (N := 10) hx hb hts in_X2 tyX2 tyX2_ok nmX2 hown hK hP hD hS 0 rfl rfl 8 (by decide) q6 (fun _ h9 => h9) rfl (by decide +kernel) rfl rfl (Nat.le_of_ble_eq_true rfl) dX2_take_53 (fun H locs hP hD hS => ?_)
        have hP : va_P D vwCl (w_X2_take cyI cyJ cyZ cyB cyO aF aF_store aW aW_keeps aF_pool aW_holds aF_kind aF_above aF_edge aF_spot aW_comes aW_goesOn aW_width vF_basins vF_spring (vF_hour + (1 : Int32)) vF_z cF_store vW_kept vW_leaked vW_ranOff vW_uneven vW_keptInAll vW_leakedInAll vW_ranOffInAll cW_keeps cF_pool cW_holds) H := hP
        have hD : va_D A (w_X2_take cyI cyJ cyZ cyB cyO aF aF_store aW aW_keeps aF_pool aW_holds aF_kind aF_above aF_edge aF_spot aW_comes aW_goesOn aW_width vF_basins vF_spring (vF_hour + (1 : Int32)) vF_z cF_store vW_kept vW_leaked vW_ranOff vW_uneven vW_keptInAll vW_leakedInAll vW_ranOffInAll cW_keeps cF_pool cW_holds) := hD
        obtain rfl := Option.some.inj h
        exact hret _ _ _ _ hP hD hS dX2_take_56 
      · have h := br_neg c1 h
        refine lv_aload_n hx hb dX2_take_10 rfl (lv_at hl 1 rfl) ?_
        refine va_get (D := D) (ci := 2) (v := .ref aF_store) (C := RX2) (T := TX2) (N := 10) hx hb hts in_X2 hown hK hP 0 rfl rfl 4 (by decide) q2 (fun _ h9 => h9) rfl dX2_take_11 ?_
        refine lv_iload_n hx hb dX2_take_14 rfl (lv_at hl 0 rfl) ?_
        refine lv_dup2_11 hx hb dX2_take_15 rfl rfl ?_
        obtain ⟨g2, h⟩ := gd_some h
        refine va_iald hx hb hK hP 1 0 rfl rfl g2 dX2_take_16 ?_
        refine lv_aload_n hx hb dX2_take_17 rfl (lv_at hl 2 rfl) ?_
        refine va_get (D := D) (ci := 1) (v := .ref aW_keeps) (C := RX1) (T := TX1) (N := 12) hx hb hts in_X1 hown hK hP 2 rfl rfl 1 (by decide) q3 (fun _ h9 => h9) rfl dX2_take_18 ?_
        refine lv_iload_n hx hb dX2_take_21 rfl (lv_at hl 0 rfl) ?_
        obtain ⟨g3, h⟩ := gd_some h
        refine va_iald hx hb hK hP 3 0 rfl rfl g3 dX2_take_22 ?_
        refine lv_iadd hx hb dX2_take_23 ?_
        obtain ⟨g4, h⟩ := gd_some h
        refine va_iast hx hb hK hP hD hS 1 0 rfl rfl g4 dX2_take_24 (fun H locs hP hD hS => ?_)
        have hP : va_P D vwCl (w_X2_take cyI cyJ cyZ cyB cyO aF aF_store aW aW_keeps aF_pool aW_holds aF_kind aF_above aF_edge aF_spot aW_comes aW_goesOn aW_width vF_basins vF_spring vF_hour vF_z (upd cF_store y2.toNatClampNeg ((cF_store y2.toNatClampNeg) + (cW_keeps y2.toNatClampNeg))) vW_kept vW_leaked vW_ranOff vW_uneven vW_keptInAll vW_leakedInAll vW_ranOffInAll cW_keeps cF_pool cW_holds) H := hP
        have hD : va_D A (w_X2_take cyI cyJ cyZ cyB cyO aF aF_store aW aW_keeps aF_pool aW_holds aF_kind aF_above aF_edge aF_spot aW_comes aW_goesOn aW_width vF_basins vF_spring vF_hour vF_z (upd cF_store y2.toNatClampNeg ((cF_store y2.toNatClampNeg) + (cW_keeps y2.toNatClampNeg))) vW_kept vW_leaked vW_ranOff vW_uneven vW_keptInAll vW_leakedInAll vW_ranOffInAll cW_keeps cF_pool cW_holds) := hD
        refine lv_aload_n hx hb dX2_take_25 rfl (lv_at hl 1 rfl) ?_
        refine va_get (D := D) (ci := 2) (v := .ref aF_pool) (C := RX2) (T := TX2) (N := 10) hx hb hts in_X2 hown hK hP 0 rfl rfl 3 (by decide) q4 (fun _ h9 => h9) rfl dX2_take_26 ?_
        refine lv_iload_n hx hb dX2_take_29 rfl (lv_at hl 0 rfl) ?_
        refine lv_dup2_11 hx hb dX2_take_30 rfl rfl ?_
        obtain ⟨g5, h⟩ := gd_some h
        refine va_iald hx hb hK hP 4 0 rfl rfl g5 dX2_take_31 ?_
        refine lv_aload_n hx hb dX2_take_32 rfl (lv_at hl 2 rfl) ?_
        refine va_get (D := D) (ci := 1) (v := .ref aW_holds) (C := RX1) (T := TX1) (N := 12) hx hb hts in_X1 hown hK hP 2 rfl rfl 2 (by decide) q5 (fun _ h9 => h9) rfl dX2_take_33 ?_
        refine lv_iload_n hx hb dX2_take_36 rfl (lv_at hl 0 rfl) ?_
        obtain ⟨g6, h⟩ := gd_some h
        refine va_iald hx hb hK hP 5 0 rfl rfl g6 dX2_take_37 ?_
        refine lv_iadd hx hb dX2_take_38 ?_
        obtain ⟨g7, h⟩ := gd_some h
        refine va_iast hx hb hK hP hD hS 4 0 rfl rfl g7 dX2_take_39 (fun H locs hP hD hS => ?_)
        have hP : va_P D vwCl (w_X2_take cyI cyJ cyZ cyB cyO aF aF_store aW aW_keeps aF_pool aW_holds aF_kind aF_above aF_edge aF_spot aW_comes aW_goesOn aW_width vF_basins vF_spring vF_hour vF_z (upd cF_store y2.toNatClampNeg ((cF_store y2.toNatClampNeg) + (cW_keeps y2.toNatClampNeg))) vW_kept vW_leaked vW_ranOff vW_uneven vW_keptInAll vW_leakedInAll vW_ranOffInAll cW_keeps (upd cF_pool y2.toNatClampNeg ((cF_pool y2.toNatClampNeg) + (cW_holds y2.toNatClampNeg))) cW_holds) H := hP
        have hD : va_D A (w_X2_take cyI cyJ cyZ cyB cyO aF aF_store aW aW_keeps aF_pool aW_holds aF_kind aF_above aF_edge aF_spot aW_comes aW_goesOn aW_width vF_basins vF_spring vF_hour vF_z (upd cF_store y2.toNatClampNeg ((cF_store y2.toNatClampNeg) + (cW_keeps y2.toNatClampNeg))) vW_kept vW_leaked vW_ranOff vW_uneven vW_keptInAll vW_leakedInAll vW_ranOffInAll cW_keeps (upd cF_pool y2.toNatClampNeg ((cF_pool y2.toNatClampNeg) + (cW_holds y2.toNatClampNeg))) cW_holds) := hD
        refine lv_iinc (v := y2 + 1) (lv' := [(2, .int (y2 + 1)), (0, .ref aF), (1, .ref aW)]) hx hb dX2_take_40 hl (k := 0) rfl rfl (by decide) rfl (fun ls hl => ?_)
        refine lv_goto (tgt := 2) hx hb dX2_take_43 (by decide) ?_
        exact ih2 (y2 + 1) vF_hour (upd cF_store y2.toNatClampNeg ((cF_store y2.toNatClampNeg) + (cW_keeps y2.toNatClampNeg))) (upd cF_pool y2.toNatClampNeg ((cF_pool y2.toNatClampNeg) + (cW_holds y2.toNatClampNeg))) _ _ _ hP hD hS (lv_sub hl [0, 1, 2] rfl) h
  exact lp2 FU (0 : Int32) vF_hour cF_store cF_pool _ _ _ hP hD hS (lv_sub hl [0, 1, 2] rfl) h
/-! ===== X1_pass ===== -/
def w_X1_pass (cyI cyJ cyZ cyB cyO : ClassId) (aW aF aW_width aF_above aF_edge aW_goesOn aW_comes aF_kind aW_keeps aF_pool aW_holds aF_store aF_spot : Nat) (vW_kept : Int32) (vW_leaked : Int32) (vW_ranOff : Int32) (vW_uneven : Int32) (vW_keptInAll : Int32) (vW_leakedInAll : Int32) (vW_ranOffInAll : Int32) (vF_basins : Int32) (vF_spring : Int32) (vF_hour : Int32) (vF_z : Int32) (cW_width : Nat → Int32) (cF_above : Nat → Int32) (cF_edge : Nat → Int32) (cW_goesOn : Nat → Int32) (cW_comes : Nat → Int32) (cF_kind : Nat → Int32) (cW_keeps : Nat → Int32) (cF_pool : Nat → Int32) (cW_holds : Nat → Int32) (cF_store : Nat → Int32) : va_W := [(aW, .inr (1, [.ref aW_comes, .ref aW_keeps, .ref aW_holds, .ref aW_goesOn, .ref aW_width, .int vW_kept, .int vW_leaked, .int vW_ranOff, .int vW_uneven, .int vW_keptInAll, .int vW_leakedInAll, .int vW_ranOffInAll])), (aF, .inr (2, [.ref aF_kind, .ref aF_above, .ref aF_edge, .ref aF_pool, .ref aF_store, .ref aF_spot, .int vF_basins, .int vF_spring, .int vF_hour, .int vF_z])), (aW_width, .inl (cyI, 10, .inl cW_width)), (aF_above, .inl (cyI, 10, .inl cF_above)), (aF_edge, .inl (cyI, 10, .inl cF_edge)), (aW_goesOn, .inl (cyI, 10, .inl cW_goesOn)), (aW_comes, .inl (cyI, 10, .inl cW_comes)), (aF_kind, .inl (cyI, 10, .inl cF_kind)), (aW_keeps, .inl (cyI, 10, .inl cW_keeps)), (aF_pool, .inl (cyI, 10, .inl cF_pool)), (aW_holds, .inl (cyI, 10, .inl cW_holds)), (aF_store, .inl (cyI, 10, .inl cF_store))]
set_option maxHeartbeats 4000000 in
set_option maxRecDepth 100000 in
theorem t_X1_pass (l : Launch) (D : va_G) (cyI cyJ cyZ cyB cyO : ClassId) (aW aF aW_width aF_above aF_edge aW_goesOn aW_comes aF_kind aW_keeps aF_pool aW_holds aF_store aF_spot : Nat) (vW_kept : Int32) (vW_leaked : Int32) (vW_ranOff : Int32) (vW_uneven : Int32) (vW_keptInAll : Int32) (vW_leakedInAll : Int32) (vW_ranOffInAll : Int32) (vF_basins : Int32) (vF_spring : Int32) (vF_hour : Int32) (vF_z : Int32) (cW_width : Nat → Int32) (cF_above : Nat → Int32) (cF_edge : Nat → Int32) (cW_goesOn : Nat → Int32) (cW_comes : Nat → Int32) (cF_kind : Nat → Int32) (cW_keeps : Nat → Int32) (cF_pool : Nat → Int32) (cW_holds : Nat → Int32) (cF_store : Nat → Int32) (x2 : Int32) (out : Int32 × Int32 × Int32 × Int32 × Int32 × Int32 × Int32 × Int32 × (Nat → Int32) × (Nat → Int32) × (Nat → Int32) × (Nat → Int32) × (Nat → Int32) × (Nat → Int32) × (Nat → Int32)) (h : f_X1_pass x2 vW_kept vW_leaked vW_ranOff vW_uneven vW_keptInAll vW_leakedInAll vW_ranOffInAll vF_basins vF_spring vF_hour cW_width cF_above cF_edge cW_goesOn cW_comes cF_kind cW_keeps cF_pool cW_holds cF_store = some out) : Mv l yX1_pass wsX1_pass ({ frames := 4, cells := 0, slots := 0, locals := 90 } : Room) D (tyA cyI cyJ cyZ cyB cyO) [.ref aW, .ref aF, .int x2] (w_X1_pass cyI cyJ cyZ cyB cyO aW aF aW_width aF_above aF_edge aW_goesOn aW_comes aF_kind aW_keeps aF_pool aW_holds aF_store aF_spot vW_kept vW_leaked vW_ranOff vW_uneven vW_keptInAll vW_leakedInAll vW_ranOffInAll vF_basins vF_spring vF_hour vF_z cW_width cF_above cF_edge cW_goesOn cW_comes cF_kind cW_keeps cF_pool cW_holds cF_store) (w_X1_pass cyI cyJ cyZ cyB cyO aW aF aW_width aF_above aF_edge aW_goesOn aW_comes aF_kind aW_keeps aF_pool aW_holds aF_store aF_spot out.1 out.2.1 out.2.2.1 out.2.2.2.1 out.2.2.2.2.1 out.2.2.2.2.2.1 out.2.2.2.2.2.2.1 vF_basins vF_spring out.2.2.2.2.2.2.2.1 vF_z out.2.2.2.2.2.2.2.2.1 cF_above cF_edge out.2.2.2.2.2.2.2.2.2.1 out.2.2.2.2.2.2.2.2.2.2.1 cF_kind out.2.2.2.2.2.2.2.2.2.2.2.1 out.2.2.2.2.2.2.2.2.2.2.2.2.1 out.2.2.2.2.2.2.2.2.2.2.2.2.2.1 out.2.2.2.2.2.2.2.2.2.2.2.2.2.2) := by
  refine Mv.mk (cc := cX1_pass) (maxL := 4) (own := RX1) (by decide) rfl rfl (Nat.le_of_ble_eq_true rfl) ?_
  intro p e s m args below meth c A Q F hK hP hD hA hret ls hl
  obtain ⟨hx, hb, hml, hown, hts⟩ := id F
  have hS : va_S A s.heap s.heap [] := va_S.rf
  have hl : lv_has ls 4 [(0, .ref aW), (1, .ref aF), (2, .int x2)] := hl
  have in_X1 : ∀ w ∈ wsX10, w ∈ wsX1_pass := by decide +kernel
  have q1 := hts (Cond.fieldLink RX1 27 "ThirdFountain$Flow" "keptInAll" "I") (List.mem_of_getElem? (i := 1) rfl)
  have q2 := hts (Cond.fieldLink RX1 31 "ThirdFountain$Flow" "leakedInAll" "I") (List.mem_of_getElem? (i := 2) rfl)
  have q3 := hts (Cond.fieldLink RX1 34 "ThirdFountain$Flow" "ranOffInAll" "I") (List.mem_of_getElem? (i := 3) rfl)
  have q7 := hts (Cond.methodLink RX1 37 yX1_reckon) (List.mem_of_getElem? (i := 7) rfl)
  have q53 := hts (Cond.methodLink RX1 41 yX2_take) (List.mem_of_getElem? (i := 53) rfl)
  have q4 := hts (Cond.fieldLink RX1 47 "ThirdFountain$Flow" "kept" "I") (List.mem_of_getElem? (i := 4) rfl)
  have q5 := hts (Cond.fieldLink RX1 50 "ThirdFountain$Flow" "leaked" "I") (List.mem_of_getElem? (i := 5) rfl)
  have q6 := hts (Cond.fieldLink RX1 53 "ThirdFountain$Flow" "ranOff" "I") (List.mem_of_getElem? (i := 6) rfl)
  unfold f_X1_pass at h
  refine lv_aload_n hx hb dX1_pass_0 rfl (lv_at hl 0 rfl) ?_
  refine lv_iconst (v := 0) hx hb dX1_pass_1 (by decide) ?_
  refine va_put (D := D) (ci := 1) (v := .int (0 : Int32)) (ty := .int) (C := RX1) (T := TX1) (N := 12) hx hb hts in_X1 tyX1 tyX1_ok nmX1 hown hK hP hD hS 0 rfl rfl 9 (by decide) q1 (fun _ h9 => h9) rfl (by decide +kernel) rfl rfl (Nat.le_of_ble_eq_true rfl) dX1_pass_2 (fun H locs hP hD hS => ?_)
  have hP : va_P D vwCl (w_X1_pass cyI cyJ cyZ cyB cyO aW aF aW_width aF_above aF_edge aW_goesOn aW_comes aF_kind aW_keeps aF_pool aW_holds aF_store aF_spot vW_kept vW_leaked vW_ranOff vW_uneven (0 : Int32) vW_leakedInAll vW_ranOffInAll vF_basins vF_spring vF_hour vF_z cW_width cF_above cF_edge cW_goesOn cW_comes cF_kind cW_keeps cF_pool cW_holds cF_store) H := hP
  have hD : va_D A (w_X1_pass cyI cyJ cyZ cyB cyO aW aF aW_width aF_above aF_edge aW_goesOn aW_comes aF_kind aW_keeps aF_pool aW_holds aF_store aF_spot vW_kept vW_leaked vW_ranOff vW_uneven (0 : Int32) vW_leakedInAll vW_ranOffInAll vF_basins vF_spring vF_hour vF_z cW_width cF_above cF_edge cW_goesOn cW_comes cF_kind cW_keeps cF_pool cW_holds cF_store) := hD
  refine lv_aload_n hx hb dX1_pass_5 rfl (lv_at hl 0 rfl) ?_
  refine lv_iconst (v := 0) hx hb dX1_pass_6 (by decide) ?_
  refine va_put (D := D) (ci := 1) (v := .int (0 : Int32)) (ty := .int) (C := RX1) (T := TX1) (N := 12) hx hb hts in_X1 tyX1 tyX1_ok nmX1 hown hK hP hD hS 0 rfl rfl 10 (by decide) q2 (fun _ h9 => h9) rfl (by decide +kernel) rfl rfl (Nat.le_of_ble_eq_true rfl) dX1_pass_7 (fun H locs hP hD hS => ?_)
  have hP : va_P D vwCl (w_X1_pass cyI cyJ cyZ cyB cyO aW aF aW_width aF_above aF_edge aW_goesOn aW_comes aF_kind aW_keeps aF_pool aW_holds aF_store aF_spot vW_kept vW_leaked vW_ranOff vW_uneven (0 : Int32) (0 : Int32) vW_ranOffInAll vF_basins vF_spring vF_hour vF_z cW_width cF_above cF_edge cW_goesOn cW_comes cF_kind cW_keeps cF_pool cW_holds cF_store) H := hP
  have hD : va_D A (w_X1_pass cyI cyJ cyZ cyB cyO aW aF aW_width aF_above aF_edge aW_goesOn aW_comes aF_kind aW_keeps aF_pool aW_holds aF_store aF_spot vW_kept vW_leaked vW_ranOff vW_uneven (0 : Int32) (0 : Int32) vW_ranOffInAll vF_basins vF_spring vF_hour vF_z cW_width cF_above cF_edge cW_goesOn cW_comes cF_kind cW_keeps cF_pool cW_holds cF_store) := hD
  refine lv_aload_n hx hb dX1_pass_10 rfl (lv_at hl 0 rfl) ?_
  refine lv_iconst (v := 0) hx hb dX1_pass_11 (by decide) ?_
  refine va_put (D := D) (ci := 1) (v := .int (0 : Int32)) (ty := .int) (C := RX1) (T := TX1) (N := 12) hx hb hts in_X1 tyX1 tyX1_ok nmX1 hown hK hP hD hS 0 rfl rfl 11 (by decide) q3 (fun _ h9 => h9) rfl (by decide +kernel) rfl rfl (Nat.le_of_ble_eq_true rfl) dX1_pass_12 (fun H locs hP hD hS => ?_)
  have hP : va_P D vwCl (w_X1_pass cyI cyJ cyZ cyB cyO aW aF aW_width aF_above aF_edge aW_goesOn aW_comes aF_kind aW_keeps aF_pool aW_holds aF_store aF_spot vW_kept vW_leaked vW_ranOff vW_uneven (0 : Int32) (0 : Int32) (0 : Int32) vF_basins vF_spring vF_hour vF_z cW_width cF_above cF_edge cW_goesOn cW_comes cF_kind cW_keeps cF_pool cW_holds cF_store) H := hP
  have hD : va_D A (w_X1_pass cyI cyJ cyZ cyB cyO aW aF aW_width aF_above aF_edge aW_goesOn aW_comes aF_kind aW_keeps aF_pool aW_holds aF_store aF_spot vW_kept vW_leaked vW_ranOff vW_uneven (0 : Int32) (0 : Int32) (0 : Int32) vF_basins vF_spring vF_hour vF_z cW_width cF_above cF_edge cW_goesOn cW_comes cF_kind cW_keeps cF_pool cW_holds cF_store) := hD
  refine lv_iconst (v := 0) hx hb dX1_pass_15 (by decide) ?_
  refine lv_istore_n (lv' := [(3, .int (0 : Int32)), (0, .ref aW), (1, .ref aF), (2, .int x2)]) hx hb dX1_pass_16 rfl hl (by decide) rfl (fun ls hl => ?_)
  have lp17 : ∀ (k17 : Nat) (y3 : Int32) (vW_kept : Int32) (vW_leaked : Int32) (vW_ranOff : Int32) (vW_uneven : Int32) (vW_keptInAll : Int32) (vW_leakedInAll : Int32) (vW_ranOffInAll : Int32) (vF_hour : Int32) (cW_width : Nat → Int32) (cW_goesOn : Nat → Int32) (cW_comes : Nat → Int32) (cW_keeps : Nat → Int32) (cF_pool : Nat → Int32) (cW_holds : Nat → Int32) (cF_store : Nat → Int32) (H : Heap) (locs : List Loc) (ls : Array Slot), va_P D vwCl (w_X1_pass cyI cyJ cyZ cyB cyO aW aF aW_width aF_above aF_edge aW_goesOn aW_comes aF_kind aW_keeps aF_pool aW_holds aF_store aF_spot vW_kept vW_leaked vW_ranOff vW_uneven vW_keptInAll vW_leakedInAll vW_ranOffInAll vF_basins vF_spring vF_hour vF_z cW_width cF_above cF_edge cW_goesOn cW_comes cF_kind cW_keeps cF_pool cW_holds cF_store) H → va_D A (w_X1_pass cyI cyJ cyZ cyB cyO aW aF aW_width aF_above aF_edge aW_goesOn aW_comes aF_kind aW_keeps aF_pool aW_holds aF_store aF_spot vW_kept vW_leaked vW_ranOff vW_uneven vW_keptInAll vW_leakedInAll vW_ranOffInAll vF_basins vF_spring vF_hour vF_z cW_width cF_above cF_edge cW_goesOn cW_comes cF_kind cW_keeps cF_pool cW_holds cF_store) → va_S A s.heap H locs → lv_has ls 4 [(3, .int y3), (0, .ref aW), (1, .ref aF), (2, .int x2)] → (f_X1_pass_L17 x2 vF_basins vF_spring cF_above cF_edge cF_kind k17) (y3, vW_kept, vW_leaked, vW_ranOff, vW_uneven, vW_keptInAll, vW_leakedInAll, vW_ranOffInAll, vF_hour, cW_width, cW_goesOn, cW_comes, cW_keeps, cF_pool, cW_holds, cF_store) = some out → W p l e ({ frames := 4, cells := 0, slots := 0, locals := 90 } : Room) s m args below meth c H locs 0 0 Q (F0 m 17 ls []) := by
    intro k17
    induction k17 with
    | zero => intro y3 vW_kept vW_leaked vW_ranOff vW_uneven vW_keptInAll vW_leakedInAll vW_ranOffInAll vF_hour cW_width cW_goesOn cW_comes cW_keeps cF_pool cW_holds cF_store H locs ls hP hD hS hl h; cases h
    | succ k17 ih17 =>
      intro y3 vW_kept vW_leaked vW_ranOff vW_uneven vW_keptInAll vW_leakedInAll vW_ranOffInAll vF_hour cW_width cW_goesOn cW_comes cW_keeps cF_pool cW_holds cF_store H locs ls hP hD hS hl h
      have h : f_X1_pass_L17_b x2 vF_basins vF_spring cF_above cF_edge cF_kind (f_X1_pass_L17 x2 vF_basins vF_spring cF_above cF_edge cF_kind k17) y3 vW_kept vW_leaked vW_ranOff vW_uneven vW_keptInAll vW_leakedInAll vW_ranOffInAll vF_hour cW_width cW_goesOn cW_comes cW_keeps cF_pool cW_holds cF_store = some out := h
      unfold f_X1_pass_L17_b at h
      refine lv_iload_n hx hb dX1_pass_17 rfl (lv_at hl 0 rfl) ?_
      refine lv_iload_n hx hb dX1_pass_18 rfl (lv_at hl 3 rfl) ?_
      refine lv_icmp_ge (tgt := 77) hx hb dX1_pass_19 (by decide) (fun c1 => ?_) (fun c1 => ?_)
      · have h := br_pos c1 h
        obtain rfl := Option.some.inj h
        exact hret _ _ _ _ hP hD hS dX1_pass_77 
      · have h := br_neg c1 h
        refine lv_aload_n hx hb dX1_pass_22 rfl (lv_at hl 1 rfl) ?_
        refine lv_aload_n hx hb dX1_pass_23 rfl (lv_at hl 2 rfl) ?_
        obtain ⟨u2, hu2, h⟩ := bd_some h
        refine cl_Vv (rest := []) F hK hP hD hS hA hl (t_X1_reckon l D cyI cyJ cyZ cyB cyO aW aF aW_width aF_above aF_edge aW_goesOn aW_comes aF_kind aW_keeps aF_pool aW_holds aF_store aF_spot vW_kept vW_leaked vW_ranOff vW_uneven vW_keptInAll vW_leakedInAll vW_ranOffInAll vF_basins vF_spring vF_hour vF_z cW_width cF_above cF_edge cW_goesOn cW_comes cF_kind cW_keeps cF_pool cW_holds u2 hu2) (cwV 1 hts gX1_pass_X1_reckon rfl rfl rfl (by decide +kernel) ⟨Nat.le_of_ble_eq_true rfl, Nat.le_of_ble_eq_true rfl⟩) 0 [0, 1, 2, 3, 4, 5, 6, 7, 8, 9, 10] [1, 2, 3, 4, 5, 6, 7, 8, 9, 10, 11, 0] [] (w_X1_pass cyI cyJ cyZ cyB cyO aW aF aW_width aF_above aF_edge aW_goesOn aW_comes aF_kind aW_keeps aF_pool aW_holds aF_store aF_spot u2.1 u2.2.1 u2.2.2.1 u2.2.2.2.1 vW_keptInAll vW_leakedInAll vW_ranOffInAll vF_basins vF_spring vF_hour vF_z u2.2.2.2.2.1 cF_above cF_edge u2.2.2.2.2.2.1 u2.2.2.2.2.2.2.1 cF_kind u2.2.2.2.2.2.2.2.1 cF_pool u2.2.2.2.2.2.2.2.2 cF_store) rfl rfl rfl rfl rfl (by decide +kernel) rfl rfl (Nat.le_of_ble_eq_true rfl) ⟨Nat.zero_le _, Nat.zero_le _⟩ dX1_pass_24 (fun H locs hP hD hS => ?_)
        refine lv_aload_n hx hb dX1_pass_27 rfl (lv_at hl 2 rfl) ?_
        refine lv_aload_n hx hb dX1_pass_28 rfl (lv_at hl 1 rfl) ?_
        obtain ⟨u3, hu3, h⟩ := bd_some h
        refine cl_Vv (rest := []) F hK hP hD hS hA hl (t_X2_take l D cyI cyJ cyZ cyB cyO aF aF_store aW aW_keeps aF_pool aW_holds aF_kind aF_above aF_edge aF_spot aW_comes aW_goesOn aW_width vF_basins vF_spring vF_hour vF_z cF_store u2.1 u2.2.1 u2.2.2.1 u2.2.2.2.1 vW_keptInAll vW_leakedInAll vW_ranOffInAll u2.2.2.2.2.2.2.2.1 cF_pool u2.2.2.2.2.2.2.2.2 u3 hu3) (cwV 1 hts gX1_pass_X2_take rfl rfl rfl (by decide +kernel) ⟨Nat.le_of_ble_eq_true rfl, Nat.le_of_ble_eq_true rfl⟩) 1 [1, 11, 0, 8, 9, 10] [3, 1, 0, 0, 0, 0, 0, 0, 4, 5, 6, 2] [] (w_X1_pass cyI cyJ cyZ cyB cyO aW aF aW_width aF_above aF_edge aW_goesOn aW_comes aF_kind aW_keeps aF_pool aW_holds aF_store aF_spot u2.1 u2.2.1 u2.2.2.1 u2.2.2.2.1 vW_keptInAll vW_leakedInAll vW_ranOffInAll vF_basins vF_spring u3.1 vF_z u2.2.2.2.2.1 cF_above cF_edge u2.2.2.2.2.2.1 u2.2.2.2.2.2.2.1 cF_kind u2.2.2.2.2.2.2.2.1 u3.2.2 u2.2.2.2.2.2.2.2.2 u3.2.1) rfl rfl rfl rfl rfl (by decide +kernel) rfl rfl (Nat.le_of_ble_eq_true rfl) ⟨Nat.zero_le _, Nat.zero_le _⟩ dX1_pass_29 (fun H locs hP hD hS => ?_)
        refine lv_aload_n hx hb dX1_pass_32 rfl (lv_at hl 1 rfl) ?_
        refine lv_dup hx hb dX1_pass_33 rfl ?_
        refine va_get (D := D) (ci := 1) (v := .int vW_keptInAll) (C := RX1) (T := TX1) (N := 12) hx hb hts in_X1 hown hK hP 0 rfl rfl 9 (by decide) q1 (fun _ h9 => h9) rfl dX1_pass_34 ?_
        refine lv_aload_n hx hb dX1_pass_37 rfl (lv_at hl 1 rfl) ?_
        refine va_get (D := D) (ci := 1) (v := .int u2.1) (C := RX1) (T := TX1) (N := 12) hx hb hts in_X1 hown hK hP 0 rfl rfl 5 (by decide) q4 (fun _ h9 => h9) rfl dX1_pass_38 ?_
        refine lv_iadd hx hb dX1_pass_41 ?_
        refine va_put (D := D) (ci := 1) (v := .int (vW_keptInAll + u2.1)) (ty := .int) (C := RX1) (T := TX1) (N := 12) hx hb hts in_X1 tyX1 tyX1_ok nmX1 hown hK hP hD hS 0 rfl rfl 9 (by decide) q1 (fun _ h9 => h9) rfl (by decide +kernel) rfl rfl (Nat.le_of_ble_eq_true rfl) dX1_pass_42 (fun H locs hP hD hS => ?_)
        have hP : va_P D vwCl (w_X1_pass cyI cyJ cyZ cyB cyO aW aF aW_width aF_above aF_edge aW_goesOn aW_comes aF_kind aW_keeps aF_pool aW_holds aF_store aF_spot u2.1 u2.2.1 u2.2.2.1 u2.2.2.2.1 (vW_keptInAll + u2.1) vW_leakedInAll vW_ranOffInAll vF_basins vF_spring u3.1 vF_z u2.2.2.2.2.1 cF_above cF_edge u2.2.2.2.2.2.1 u2.2.2.2.2.2.2.1 cF_kind u2.2.2.2.2.2.2.2.1 u3.2.2 u2.2.2.2.2.2.2.2.2 u3.2.1) H := hP
        have hD : va_D A (w_X1_pass cyI cyJ cyZ cyB cyO aW aF aW_width aF_above aF_edge aW_goesOn aW_comes aF_kind aW_keeps aF_pool aW_holds aF_store aF_spot u2.1 u2.2.1 u2.2.2.1 u2.2.2.2.1 (vW_keptInAll + u2.1) vW_leakedInAll vW_ranOffInAll vF_basins vF_spring u3.1 vF_z u2.2.2.2.2.1 cF_above cF_edge u2.2.2.2.2.2.1 u2.2.2.2.2.2.2.1 cF_kind u2.2.2.2.2.2.2.2.1 u3.2.2 u2.2.2.2.2.2.2.2.2 u3.2.1) := hD
        refine lv_aload_n hx hb dX1_pass_45 rfl (lv_at hl 1 rfl) ?_
        refine lv_dup hx hb dX1_pass_46 rfl ?_
        refine va_get (D := D) (ci := 1) (v := .int vW_leakedInAll) (C := RX1) (T := TX1) (N := 12) hx hb hts in_X1 hown hK hP 0 rfl rfl 10 (by decide) q2 (fun _ h9 => h9) rfl dX1_pass_47 ?_
        refine lv_aload_n hx hb dX1_pass_50 rfl (lv_at hl 1 rfl) ?_
        refine va_get (D := D) (ci := 1) (v := .int u2.2.1) (C := RX1) (T := TX1) (N := 12) hx hb hts in_X1 hown hK hP 0 rfl rfl 6 (by decide) q5 (fun _ h9 => h9) rfl dX1_pass_51 ?_
        refine lv_iadd hx hb dX1_pass_54 ?_
        refine va_put (D := D) (ci := 1) (v := .int (vW_leakedInAll + u2.2.1)) (ty := .int) (C := RX1) (T := TX1) (N := 12) hx hb hts in_X1 tyX1 tyX1_ok nmX1 hown hK hP hD hS 0 rfl rfl 10 (by decide) q2 (fun _ h9 => h9) rfl (by decide +kernel) rfl rfl (Nat.le_of_ble_eq_true rfl) dX1_pass_55 (fun H locs hP hD hS => ?_)
        have hP : va_P D vwCl (w_X1_pass cyI cyJ cyZ cyB cyO aW aF aW_width aF_above aF_edge aW_goesOn aW_comes aF_kind aW_keeps aF_pool aW_holds aF_store aF_spot u2.1 u2.2.1 u2.2.2.1 u2.2.2.2.1 (vW_keptInAll + u2.1) (vW_leakedInAll + u2.2.1) vW_ranOffInAll vF_basins vF_spring u3.1 vF_z u2.2.2.2.2.1 cF_above cF_edge u2.2.2.2.2.2.1 u2.2.2.2.2.2.2.1 cF_kind u2.2.2.2.2.2.2.2.1 u3.2.2 u2.2.2.2.2.2.2.2.2 u3.2.1) H := hP
        have hD : va_D A (w_X1_pass cyI cyJ cyZ cyB cyO aW aF aW_width aF_above aF_edge aW_goesOn aW_comes aF_kind aW_keeps aF_pool aW_holds aF_store aF_spot u2.1 u2.2.1 u2.2.2.1 u2.2.2.2.1 (vW_keptInAll + u2.1) (vW_leakedInAll + u2.2.1) vW_ranOffInAll vF_basins vF_spring u3.1 vF_z u2.2.2.2.2.1 cF_above cF_edge u2.2.2.2.2.2.1 u2.2.2.2.2.2.2.1 cF_kind u2.2.2.2.2.2.2.2.1 u3.2.2 u2.2.2.2.2.2.2.2.2 u3.2.1) := hD
        refine lv_aload_n hx hb dX1_pass_58 rfl (lv_at hl 1 rfl) ?_
        refine lv_dup hx hb dX1_pass_59 rfl ?_
        refine va_get (D := D) (ci := 1) (v := .int vW_ranOffInAll) (C := RX1) (T := TX1) (N := 12) hx hb hts in_X1 hown hK hP 0 rfl rfl 11 (by decide) q3 (fun _ h9 => h9) rfl dX1_pass_60 ?_
        refine lv_aload_n hx hb dX1_pass_63 rfl (lv_at hl 1 rfl) ?_
        refine va_get (D := D) (ci := 1) (v := .int u2.2.2.1) (C := RX1) (T := TX1) (N := 12) hx hb hts in_X1 hown hK hP 0 rfl rfl 7 (by decide) q6 (fun _ h9 => h9) rfl dX1_pass_64 ?_
        refine lv_iadd hx hb dX1_pass_67 ?_
        refine va_put (D := D) (ci := 1) (v := .int (vW_ranOffInAll + u2.2.2.1)) (ty := .int) (C := RX1) (T := TX1) (N := 12) hx hb hts in_X1 tyX1 tyX1_ok nmX1 hown hK hP hD hS 0 rfl rfl 11 (by decide) q3 (fun _ h9 => h9) rfl (by decide +kernel) rfl rfl (Nat.le_of_ble_eq_true rfl) dX1_pass_68 (fun H locs hP hD hS => ?_)
        have hP : va_P D vwCl (w_X1_pass cyI cyJ cyZ cyB cyO aW aF aW_width aF_above aF_edge aW_goesOn aW_comes aF_kind aW_keeps aF_pool aW_holds aF_store aF_spot u2.1 u2.2.1 u2.2.2.1 u2.2.2.2.1 (vW_keptInAll + u2.1) (vW_leakedInAll + u2.2.1) (vW_ranOffInAll + u2.2.2.1) vF_basins vF_spring u3.1 vF_z u2.2.2.2.2.1 cF_above cF_edge u2.2.2.2.2.2.1 u2.2.2.2.2.2.2.1 cF_kind u2.2.2.2.2.2.2.2.1 u3.2.2 u2.2.2.2.2.2.2.2.2 u3.2.1) H := hP
        have hD : va_D A (w_X1_pass cyI cyJ cyZ cyB cyO aW aF aW_width aF_above aF_edge aW_goesOn aW_comes aF_kind aW_keeps aF_pool aW_holds aF_store aF_spot u2.1 u2.2.1 u2.2.2.1 u2.2.2.2.1 (vW_keptInAll + u2.1) (vW_leakedInAll + u2.2.1) (vW_ranOffInAll + u2.2.2.1) vF_basins vF_spring u3.1 vF_z u2.2.2.2.2.1 cF_above cF_edge u2.2.2.2.2.2.1 u2.2.2.2.2.2.2.1 cF_kind u2.2.2.2.2.2.2.2.1 u3.2.2 u2.2.2.2.2.2.2.2.2 u3.2.1) := hD
        refine lv_iinc (v := y3 + 1) (lv' := [(3, .int (y3 + 1)), (0, .ref aW), (1, .ref aF), (2, .int x2)]) hx hb dX1_pass_71 hl (k := 0) rfl rfl (by decide) rfl (fun ls hl => ?_)
        refine lv_goto (tgt := 17) hx hb dX1_pass_74 (by decide) ?_
        exact ih17 (y3 + 1) u2.1 u2.2.1 u2.2.2.1 u2.2.2.2.1 (vW_keptInAll + u2.1) (vW_leakedInAll + u2.2.1) (vW_ranOffInAll + u2.2.2.1) u3.1 u2.2.2.2.2.1 u2.2.2.2.2.2.1 u2.2.2.2.2.2.2.1 u2.2.2.2.2.2.2.2.1 u3.2.2 u2.2.2.2.2.2.2.2.2 u3.2.1 _ _ _ hP hD hS (lv_sub hl [0, 1, 2, 3] rfl) h
  exact lp17 FU (0 : Int32) vW_kept vW_leaked vW_ranOff vW_uneven (0 : Int32) (0 : Int32) (0 : Int32) vF_hour cW_width cW_goesOn cW_comes cW_keeps cF_pool cW_holds cF_store _ _ _ hP hD hS (lv_sub hl [0, 1, 2, 3] rfl) h
/-! ===== X2_become ===== -/
def w_X2_become (cyI cyJ cyZ cyB cyO : ClassId) (aFF aF aFF_kind aF_kind aFF_above aF_above aFF_edge aF_edge aFF_pool aF_pool aFF_store aF_store aFF_spot aF_spot : Nat) (vFF_basins : Int32) (vFF_spring : Int32) (vFF_hour : Int32) (vFF_z : Int32) (vF_basins : Int32) (vF_spring : Int32) (vF_hour : Int32) (vF_z : Int32) (cFF_kind : Nat → Int32) (cF_kind : Nat → Int32) (cFF_above : Nat → Int32) (cF_above : Nat → Int32) (cFF_edge : Nat → Int32) (cF_edge : Nat → Int32) (cFF_pool : Nat → Int32) (cF_pool : Nat → Int32) (cFF_store : Nat → Int32) (cF_store : Nat → Int32) (cFF_spot : Nat → Int32) (cF_spot : Nat → Int32) : va_W := [(aFF, .inr (2, [.ref aFF_kind, .ref aFF_above, .ref aFF_edge, .ref aFF_pool, .ref aFF_store, .ref aFF_spot, .int vFF_basins, .int vFF_spring, .int vFF_hour, .int vFF_z])), (aF, .inr (2, [.ref aF_kind, .ref aF_above, .ref aF_edge, .ref aF_pool, .ref aF_store, .ref aF_spot, .int vF_basins, .int vF_spring, .int vF_hour, .int vF_z])), (aFF_kind, .inl (cyI, 10, .inl cFF_kind)), (aF_kind, .inl (cyI, 10, .inl cF_kind)), (aFF_above, .inl (cyI, 10, .inl cFF_above)), (aF_above, .inl (cyI, 10, .inl cF_above)), (aFF_edge, .inl (cyI, 10, .inl cFF_edge)), (aF_edge, .inl (cyI, 10, .inl cF_edge)), (aFF_pool, .inl (cyI, 10, .inl cFF_pool)), (aF_pool, .inl (cyI, 10, .inl cF_pool)), (aFF_store, .inl (cyI, 10, .inl cFF_store)), (aF_store, .inl (cyI, 10, .inl cF_store)), (aFF_spot, .inl (cyI, 10, .inl cFF_spot)), (aF_spot, .inl (cyI, 10, .inl cF_spot))]
set_option maxHeartbeats 4000000 in
set_option maxRecDepth 100000 in
theorem t_X2_become (l : Launch) (D : va_G) (cyI cyJ cyZ cyB cyO : ClassId) (aFF aF aFF_kind aF_kind aFF_above aF_above aFF_edge aF_edge aFF_pool aF_pool aFF_store aF_store aFF_spot aF_spot : Nat) (vFF_basins : Int32) (vFF_spring : Int32) (vFF_hour : Int32) (vFF_z : Int32) (vF_basins : Int32) (vF_spring : Int32) (vF_hour : Int32) (vF_z : Int32) (cFF_kind : Nat → Int32) (cF_kind : Nat → Int32) (cFF_above : Nat → Int32) (cF_above : Nat → Int32) (cFF_edge : Nat → Int32) (cF_edge : Nat → Int32) (cFF_pool : Nat → Int32) (cF_pool : Nat → Int32) (cFF_store : Nat → Int32) (cF_store : Nat → Int32) (cFF_spot : Nat → Int32) (cF_spot : Nat → Int32) (out : Int32 × Int32 × Int32 × Int32 × (Nat → Int32) × (Nat → Int32) × (Nat → Int32) × (Nat → Int32) × (Nat → Int32) × (Nat → Int32)) (h : f_X2_become vFF_basins vFF_spring vFF_hour vFF_z vF_basins vF_spring vF_hour vF_z cFF_kind cF_kind cFF_above cF_above cFF_edge cF_edge cFF_pool cF_pool cFF_store cF_store cFF_spot cF_spot = some out) : Mv l yX2_become wsX2_become ({ frames := 1, cells := 0, slots := 0, locals := 26 } : Room) D (tyA cyI cyJ cyZ cyB cyO) [.ref aF, .ref aFF] (w_X2_become cyI cyJ cyZ cyB cyO aFF aF aFF_kind aF_kind aFF_above aF_above aFF_edge aF_edge aFF_pool aF_pool aFF_store aF_store aFF_spot aF_spot vFF_basins vFF_spring vFF_hour vFF_z vF_basins vF_spring vF_hour vF_z cFF_kind cF_kind cFF_above cF_above cFF_edge cF_edge cFF_pool cF_pool cFF_store cF_store cFF_spot cF_spot) (w_X2_become cyI cyJ cyZ cyB cyO aFF aF aFF_kind aF_kind aFF_above aF_above aFF_edge aF_edge aFF_pool aF_pool aFF_store aF_store aFF_spot aF_spot vFF_basins vFF_spring vFF_hour vFF_z out.1 out.2.1 out.2.2.1 out.2.2.2.1 cFF_kind out.2.2.2.2.1 cFF_above out.2.2.2.2.2.1 cFF_edge out.2.2.2.2.2.2.1 cFF_pool out.2.2.2.2.2.2.2.1 cFF_store out.2.2.2.2.2.2.2.2.1 cFF_spot out.2.2.2.2.2.2.2.2.2) := by
  refine Mv.mk (cc := cX2_become) (maxL := 2) (own := RX2) (by decide) rfl rfl (Nat.le_of_ble_eq_true rfl) ?_
  intro p e s m args below meth c A Q F hK hP hD hA hret ls hl
  obtain ⟨hx, hb, hml, hown, hts⟩ := id F
  have hS : va_S A s.heap s.heap [] := va_S.rf
  have hl : lv_has ls 2 [(0, .ref aF), (1, .ref aFF)] := hl
  have in_X2 : ∀ w ∈ wsX20, w ∈ wsX2_become := by decide +kernel
  have q1 := hts (Cond.fieldLink RX2 9 "ThirdFountain$Fountain" "kind" "[I") (List.mem_of_getElem? (i := 1) rfl)
  have q2 := hts (Cond.methodLink RX2 37 arraycopyName) (List.mem_of_getElem? (i := 2) rfl)
  have q4 := hts (Cond.static arraycopyName) (List.mem_of_getElem? (i := 4) rfl)
  have q3 := hts (Cond.native arraycopyName) (List.mem_of_getElem? (i := 3) rfl)
  have q5 := hts (Cond.initialized "java/lang/System") (List.mem_of_getElem? (i := 5) rfl)
  have q6 := hts (Cond.fieldLink RX2 15 "ThirdFountain$Fountain" "above" "[I") (List.mem_of_getElem? (i := 6) rfl)
  have q7 := hts (Cond.fieldLink RX2 18 "ThirdFountain$Fountain" "edge" "[I") (List.mem_of_getElem? (i := 7) rfl)
  have q8 := hts (Cond.fieldLink RX2 21 "ThirdFountain$Fountain" "pool" "[I") (List.mem_of_getElem? (i := 8) rfl)
  have q9 := hts (Cond.fieldLink RX2 24 "ThirdFountain$Fountain" "store" "[I") (List.mem_of_getElem? (i := 9) rfl)
  have q10 := hts (Cond.fieldLink RX2 27 "ThirdFountain$Fountain" "spot" "[I") (List.mem_of_getElem? (i := 10) rfl)
  have q11 := hts (Cond.fieldLink RX2 43 "ThirdFountain$Fountain" "basins" "I") (List.mem_of_getElem? (i := 11) rfl)
  have q12 := hts (Cond.fieldLink RX2 30 "ThirdFountain$Fountain" "spring" "I") (List.mem_of_getElem? (i := 12) rfl)
  have q13 := hts (Cond.fieldLink RX2 46 "ThirdFountain$Fountain" "hour" "I") (List.mem_of_getElem? (i := 13) rfl)
  have q14 := hts (Cond.fieldLink RX2 34 "ThirdFountain$Fountain" "z" "I") (List.mem_of_getElem? (i := 14) rfl)
  unfold f_X2_become at h
  refine lv_aload_n hx hb dX2_become_0 rfl (lv_at hl 1 rfl) ?_
  refine va_get (D := D) (ci := 2) (v := .ref aFF_kind) (C := RX2) (T := TX2) (N := 10) hx hb hts in_X2 hown hK hP 0 rfl rfl 0 (by decide) q1 (fun _ h9 => h9) rfl dX2_become_1 ?_
  refine lv_iconst (v := 0) hx hb dX2_become_4 (by decide) ?_
  refine lv_aload_n hx hb dX2_become_5 rfl (lv_at hl 0 rfl) ?_
  refine va_get (D := D) (ci := 2) (v := .ref aF_kind) (C := RX2) (T := TX2) (N := 10) hx hb hts in_X2 hown hK hP 1 rfl rfl 0 (by decide) q1 (fun _ h9 => h9) rfl dX2_become_6 ?_
  refine lv_iconst (v := 0) hx hb dX2_become_9 (by decide) ?_
  refine lv_bipush (v := 10) hx hb dX2_become_10 (by decide) ?_
  refine va_copyi hx hb (hml.trans hl.1.symm) hown q2 q3 q4 q5 hK hP hD hS 2 3 0 0 rfl rfl rfl rfl rfl (by decide) (by decide) (by decide) (by decide) (by decide) (fun _ _ => rfl) (Nat.le_of_ble_eq_true rfl) (Nat.le_of_ble_eq_true rfl) dX2_become_12 (fun H locs hP hD hS => ?_)
  have hP : va_P D vwCl (w_X2_become cyI cyJ cyZ cyB cyO aFF aF aFF_kind aF_kind aFF_above aF_above aFF_edge aF_edge aFF_pool aF_pool aFF_store aF_store aFF_spot aF_spot vFF_basins vFF_spring vFF_hour vFF_z vF_basins vF_spring vF_hour vF_z cFF_kind (va_cpy cFF_kind cF_kind (0 : Int32).toNatClampNeg (0 : Int32).toNatClampNeg (10 : Int32).toNatClampNeg) cFF_above cF_above cFF_edge cF_edge cFF_pool cF_pool cFF_store cF_store cFF_spot cF_spot) H := hP
  have hD : va_D A (w_X2_become cyI cyJ cyZ cyB cyO aFF aF aFF_kind aF_kind aFF_above aF_above aFF_edge aF_edge aFF_pool aF_pool aFF_store aF_store aFF_spot aF_spot vFF_basins vFF_spring vFF_hour vFF_z vF_basins vF_spring vF_hour vF_z cFF_kind (va_cpy cFF_kind cF_kind (0 : Int32).toNatClampNeg (0 : Int32).toNatClampNeg (10 : Int32).toNatClampNeg) cFF_above cF_above cFF_edge cF_edge cFF_pool cF_pool cFF_store cF_store cFF_spot cF_spot) := hD
  refine lv_aload_n hx hb dX2_become_15 rfl (lv_at hl 1 rfl) ?_
  refine va_get (D := D) (ci := 2) (v := .ref aFF_above) (C := RX2) (T := TX2) (N := 10) hx hb hts in_X2 hown hK hP 0 rfl rfl 1 (by decide) q6 (fun _ h9 => h9) rfl dX2_become_16 ?_
  refine lv_iconst (v := 0) hx hb dX2_become_19 (by decide) ?_
  refine lv_aload_n hx hb dX2_become_20 rfl (lv_at hl 0 rfl) ?_
  refine va_get (D := D) (ci := 2) (v := .ref aF_above) (C := RX2) (T := TX2) (N := 10) hx hb hts in_X2 hown hK hP 1 rfl rfl 1 (by decide) q6 (fun _ h9 => h9) rfl dX2_become_21 ?_
  refine lv_iconst (v := 0) hx hb dX2_become_24 (by decide) ?_
  refine lv_bipush (v := 10) hx hb dX2_become_25 (by decide) ?_
  refine va_copyi hx hb (hml.trans hl.1.symm) hown q2 q3 q4 q5 hK hP hD hS 4 5 0 0 rfl rfl rfl rfl rfl (by decide) (by decide) (by decide) (by decide) (by decide) (fun _ _ => rfl) (Nat.le_of_ble_eq_true rfl) (Nat.le_of_ble_eq_true rfl) dX2_become_27 (fun H locs hP hD hS => ?_)
  have hP : va_P D vwCl (w_X2_become cyI cyJ cyZ cyB cyO aFF aF aFF_kind aF_kind aFF_above aF_above aFF_edge aF_edge aFF_pool aF_pool aFF_store aF_store aFF_spot aF_spot vFF_basins vFF_spring vFF_hour vFF_z vF_basins vF_spring vF_hour vF_z cFF_kind (va_cpy cFF_kind cF_kind (0 : Int32).toNatClampNeg (0 : Int32).toNatClampNeg (10 : Int32).toNatClampNeg) cFF_above (va_cpy cFF_above cF_above (0 : Int32).toNatClampNeg (0 : Int32).toNatClampNeg (10 : Int32).toNatClampNeg) cFF_edge cF_edge cFF_pool cF_pool cFF_store cF_store cFF_spot cF_spot) H := hP
  have hD : va_D A (w_X2_become cyI cyJ cyZ cyB cyO aFF aF aFF_kind aF_kind aFF_above aF_above aFF_edge aF_edge aFF_pool aF_pool aFF_store aF_store aFF_spot aF_spot vFF_basins vFF_spring vFF_hour vFF_z vF_basins vF_spring vF_hour vF_z cFF_kind (va_cpy cFF_kind cF_kind (0 : Int32).toNatClampNeg (0 : Int32).toNatClampNeg (10 : Int32).toNatClampNeg) cFF_above (va_cpy cFF_above cF_above (0 : Int32).toNatClampNeg (0 : Int32).toNatClampNeg (10 : Int32).toNatClampNeg) cFF_edge cF_edge cFF_pool cF_pool cFF_store cF_store cFF_spot cF_spot) := hD
  refine lv_aload_n hx hb dX2_become_30 rfl (lv_at hl 1 rfl) ?_
  refine va_get (D := D) (ci := 2) (v := .ref aFF_edge) (C := RX2) (T := TX2) (N := 10) hx hb hts in_X2 hown hK hP 0 rfl rfl 2 (by decide) q7 (fun _ h9 => h9) rfl dX2_become_31 ?_
  refine lv_iconst (v := 0) hx hb dX2_become_34 (by decide) ?_
  refine lv_aload_n hx hb dX2_become_35 rfl (lv_at hl 0 rfl) ?_
  refine va_get (D := D) (ci := 2) (v := .ref aF_edge) (C := RX2) (T := TX2) (N := 10) hx hb hts in_X2 hown hK hP 1 rfl rfl 2 (by decide) q7 (fun _ h9 => h9) rfl dX2_become_36 ?_
  refine lv_iconst (v := 0) hx hb dX2_become_39 (by decide) ?_
  refine lv_bipush (v := 10) hx hb dX2_become_40 (by decide) ?_
  refine va_copyi hx hb (hml.trans hl.1.symm) hown q2 q3 q4 q5 hK hP hD hS 6 7 0 0 rfl rfl rfl rfl rfl (by decide) (by decide) (by decide) (by decide) (by decide) (fun _ _ => rfl) (Nat.le_of_ble_eq_true rfl) (Nat.le_of_ble_eq_true rfl) dX2_become_42 (fun H locs hP hD hS => ?_)
  have hP : va_P D vwCl (w_X2_become cyI cyJ cyZ cyB cyO aFF aF aFF_kind aF_kind aFF_above aF_above aFF_edge aF_edge aFF_pool aF_pool aFF_store aF_store aFF_spot aF_spot vFF_basins vFF_spring vFF_hour vFF_z vF_basins vF_spring vF_hour vF_z cFF_kind (va_cpy cFF_kind cF_kind (0 : Int32).toNatClampNeg (0 : Int32).toNatClampNeg (10 : Int32).toNatClampNeg) cFF_above (va_cpy cFF_above cF_above (0 : Int32).toNatClampNeg (0 : Int32).toNatClampNeg (10 : Int32).toNatClampNeg) cFF_edge (va_cpy cFF_edge cF_edge (0 : Int32).toNatClampNeg (0 : Int32).toNatClampNeg (10 : Int32).toNatClampNeg) cFF_pool cF_pool cFF_store cF_store cFF_spot cF_spot) H := hP
  have hD : va_D A (w_X2_become cyI cyJ cyZ cyB cyO aFF aF aFF_kind aF_kind aFF_above aF_above aFF_edge aF_edge aFF_pool aF_pool aFF_store aF_store aFF_spot aF_spot vFF_basins vFF_spring vFF_hour vFF_z vF_basins vF_spring vF_hour vF_z cFF_kind (va_cpy cFF_kind cF_kind (0 : Int32).toNatClampNeg (0 : Int32).toNatClampNeg (10 : Int32).toNatClampNeg) cFF_above (va_cpy cFF_above cF_above (0 : Int32).toNatClampNeg (0 : Int32).toNatClampNeg (10 : Int32).toNatClampNeg) cFF_edge (va_cpy cFF_edge cF_edge (0 : Int32).toNatClampNeg (0 : Int32).toNatClampNeg (10 : Int32).toNatClampNeg) cFF_pool cF_pool cFF_store cF_store cFF_spot cF_spot) := hD
  refine lv_aload_n hx hb dX2_become_45 rfl (lv_at hl 1 rfl) ?_
  refine va_get (D := D) (ci := 2) (v := .ref aFF_pool) (C := RX2) (T := TX2) (N := 10) hx hb hts in_X2 hown hK hP 0 rfl rfl 3 (by decide) q8 (fun _ h9 => h9) rfl dX2_become_46 ?_
  refine lv_iconst (v := 0) hx hb dX2_become_49 (by decide) ?_
  refine lv_aload_n hx hb dX2_become_50 rfl (lv_at hl 0 rfl) ?_
  refine va_get (D := D) (ci := 2) (v := .ref aF_pool) (C := RX2) (T := TX2) (N := 10) hx hb hts in_X2 hown hK hP 1 rfl rfl 3 (by decide) q8 (fun _ h9 => h9) rfl dX2_become_51 ?_
  refine lv_iconst (v := 0) hx hb dX2_become_54 (by decide) ?_
  refine lv_bipush (v := 10) hx hb dX2_become_55 (by decide) ?_
  refine va_copyi hx hb (hml.trans hl.1.symm) hown q2 q3 q4 q5 hK hP hD hS 8 9 0 0 rfl rfl rfl rfl rfl (by decide) (by decide) (by decide) (by decide) (by decide) (fun _ _ => rfl) (Nat.le_of_ble_eq_true rfl) (Nat.le_of_ble_eq_true rfl) dX2_become_57 (fun H locs hP hD hS => ?_)
  have hP : va_P D vwCl (w_X2_become cyI cyJ cyZ cyB cyO aFF aF aFF_kind aF_kind aFF_above aF_above aFF_edge aF_edge aFF_pool aF_pool aFF_store aF_store aFF_spot aF_spot vFF_basins vFF_spring vFF_hour vFF_z vF_basins vF_spring vF_hour vF_z cFF_kind (va_cpy cFF_kind cF_kind (0 : Int32).toNatClampNeg (0 : Int32).toNatClampNeg (10 : Int32).toNatClampNeg) cFF_above (va_cpy cFF_above cF_above (0 : Int32).toNatClampNeg (0 : Int32).toNatClampNeg (10 : Int32).toNatClampNeg) cFF_edge (va_cpy cFF_edge cF_edge (0 : Int32).toNatClampNeg (0 : Int32).toNatClampNeg (10 : Int32).toNatClampNeg) cFF_pool (va_cpy cFF_pool cF_pool (0 : Int32).toNatClampNeg (0 : Int32).toNatClampNeg (10 : Int32).toNatClampNeg) cFF_store cF_store cFF_spot cF_spot) H := hP
  have hD : va_D A (w_X2_become cyI cyJ cyZ cyB cyO aFF aF aFF_kind aF_kind aFF_above aF_above aFF_edge aF_edge aFF_pool aF_pool aFF_store aF_store aFF_spot aF_spot vFF_basins vFF_spring vFF_hour vFF_z vF_basins vF_spring vF_hour vF_z cFF_kind (va_cpy cFF_kind cF_kind (0 : Int32).toNatClampNeg (0 : Int32).toNatClampNeg (10 : Int32).toNatClampNeg) cFF_above (va_cpy cFF_above cF_above (0 : Int32).toNatClampNeg (0 : Int32).toNatClampNeg (10 : Int32).toNatClampNeg) cFF_edge (va_cpy cFF_edge cF_edge (0 : Int32).toNatClampNeg (0 : Int32).toNatClampNeg (10 : Int32).toNatClampNeg) cFF_pool (va_cpy cFF_pool cF_pool (0 : Int32).toNatClampNeg (0 : Int32).toNatClampNeg (10 : Int32).toNatClampNeg) cFF_store cF_store cFF_spot cF_spot) := hD
  refine lv_aload_n hx hb dX2_become_60 rfl (lv_at hl 1 rfl) ?_
  refine va_get (D := D) (ci := 2) (v := .ref aFF_store) (C := RX2) (T := TX2) (N := 10) hx hb hts in_X2 hown hK hP 0 rfl rfl 4 (by decide) q9 (fun _ h9 => h9) rfl dX2_become_61 ?_
  refine lv_iconst (v := 0) hx hb dX2_become_64 (by decide) ?_
  refine lv_aload_n hx hb dX2_become_65 rfl (lv_at hl 0 rfl) ?_
  refine va_get (D := D) (ci := 2) (v := .ref aF_store) (C := RX2) (T := TX2) (N := 10) hx hb hts in_X2 hown hK hP 1 rfl rfl 4 (by decide) q9 (fun _ h9 => h9) rfl dX2_become_66 ?_
  refine lv_iconst (v := 0) hx hb dX2_become_69 (by decide) ?_
  refine lv_bipush (v := 10) hx hb dX2_become_70 (by decide) ?_
  refine va_copyi hx hb (hml.trans hl.1.symm) hown q2 q3 q4 q5 hK hP hD hS 10 11 0 0 rfl rfl rfl rfl rfl (by decide) (by decide) (by decide) (by decide) (by decide) (fun _ _ => rfl) (Nat.le_of_ble_eq_true rfl) (Nat.le_of_ble_eq_true rfl) dX2_become_72 (fun H locs hP hD hS => ?_)
  have hP : va_P D vwCl (w_X2_become cyI cyJ cyZ cyB cyO aFF aF aFF_kind aF_kind aFF_above aF_above aFF_edge aF_edge aFF_pool aF_pool aFF_store aF_store aFF_spot aF_spot vFF_basins vFF_spring vFF_hour vFF_z vF_basins vF_spring vF_hour vF_z cFF_kind (va_cpy cFF_kind cF_kind (0 : Int32).toNatClampNeg (0 : Int32).toNatClampNeg (10 : Int32).toNatClampNeg) cFF_above (va_cpy cFF_above cF_above (0 : Int32).toNatClampNeg (0 : Int32).toNatClampNeg (10 : Int32).toNatClampNeg) cFF_edge (va_cpy cFF_edge cF_edge (0 : Int32).toNatClampNeg (0 : Int32).toNatClampNeg (10 : Int32).toNatClampNeg) cFF_pool (va_cpy cFF_pool cF_pool (0 : Int32).toNatClampNeg (0 : Int32).toNatClampNeg (10 : Int32).toNatClampNeg) cFF_store (va_cpy cFF_store cF_store (0 : Int32).toNatClampNeg (0 : Int32).toNatClampNeg (10 : Int32).toNatClampNeg) cFF_spot cF_spot) H := hP
  have hD : va_D A (w_X2_become cyI cyJ cyZ cyB cyO aFF aF aFF_kind aF_kind aFF_above aF_above aFF_edge aF_edge aFF_pool aF_pool aFF_store aF_store aFF_spot aF_spot vFF_basins vFF_spring vFF_hour vFF_z vF_basins vF_spring vF_hour vF_z cFF_kind (va_cpy cFF_kind cF_kind (0 : Int32).toNatClampNeg (0 : Int32).toNatClampNeg (10 : Int32).toNatClampNeg) cFF_above (va_cpy cFF_above cF_above (0 : Int32).toNatClampNeg (0 : Int32).toNatClampNeg (10 : Int32).toNatClampNeg) cFF_edge (va_cpy cFF_edge cF_edge (0 : Int32).toNatClampNeg (0 : Int32).toNatClampNeg (10 : Int32).toNatClampNeg) cFF_pool (va_cpy cFF_pool cF_pool (0 : Int32).toNatClampNeg (0 : Int32).toNatClampNeg (10 : Int32).toNatClampNeg) cFF_store (va_cpy cFF_store cF_store (0 : Int32).toNatClampNeg (0 : Int32).toNatClampNeg (10 : Int32).toNatClampNeg) cFF_spot cF_spot) := hD
  refine lv_aload_n hx hb dX2_become_75 rfl (lv_at hl 1 rfl) ?_
  refine va_get (D := D) (ci := 2) (v := .ref aFF_spot) (C := RX2) (T := TX2) (N := 10) hx hb hts in_X2 hown hK hP 0 rfl rfl 5 (by decide) q10 (fun _ h9 => h9) rfl dX2_become_76 ?_
  refine lv_iconst (v := 0) hx hb dX2_become_79 (by decide) ?_
  refine lv_aload_n hx hb dX2_become_80 rfl (lv_at hl 0 rfl) ?_
  refine va_get (D := D) (ci := 2) (v := .ref aF_spot) (C := RX2) (T := TX2) (N := 10) hx hb hts in_X2 hown hK hP 1 rfl rfl 5 (by decide) q10 (fun _ h9 => h9) rfl dX2_become_81 ?_
  refine lv_iconst (v := 0) hx hb dX2_become_84 (by decide) ?_
  refine lv_bipush (v := 10) hx hb dX2_become_85 (by decide) ?_
  refine va_copyi hx hb (hml.trans hl.1.symm) hown q2 q3 q4 q5 hK hP hD hS 12 13 0 0 rfl rfl rfl rfl rfl (by decide) (by decide) (by decide) (by decide) (by decide) (fun _ _ => rfl) (Nat.le_of_ble_eq_true rfl) (Nat.le_of_ble_eq_true rfl) dX2_become_87 (fun H locs hP hD hS => ?_)
  have hP : va_P D vwCl (w_X2_become cyI cyJ cyZ cyB cyO aFF aF aFF_kind aF_kind aFF_above aF_above aFF_edge aF_edge aFF_pool aF_pool aFF_store aF_store aFF_spot aF_spot vFF_basins vFF_spring vFF_hour vFF_z vF_basins vF_spring vF_hour vF_z cFF_kind (va_cpy cFF_kind cF_kind (0 : Int32).toNatClampNeg (0 : Int32).toNatClampNeg (10 : Int32).toNatClampNeg) cFF_above (va_cpy cFF_above cF_above (0 : Int32).toNatClampNeg (0 : Int32).toNatClampNeg (10 : Int32).toNatClampNeg) cFF_edge (va_cpy cFF_edge cF_edge (0 : Int32).toNatClampNeg (0 : Int32).toNatClampNeg (10 : Int32).toNatClampNeg) cFF_pool (va_cpy cFF_pool cF_pool (0 : Int32).toNatClampNeg (0 : Int32).toNatClampNeg (10 : Int32).toNatClampNeg) cFF_store (va_cpy cFF_store cF_store (0 : Int32).toNatClampNeg (0 : Int32).toNatClampNeg (10 : Int32).toNatClampNeg) cFF_spot (va_cpy cFF_spot cF_spot (0 : Int32).toNatClampNeg (0 : Int32).toNatClampNeg (10 : Int32).toNatClampNeg)) H := hP
  have hD : va_D A (w_X2_become cyI cyJ cyZ cyB cyO aFF aF aFF_kind aF_kind aFF_above aF_above aFF_edge aF_edge aFF_pool aF_pool aFF_store aF_store aFF_spot aF_spot vFF_basins vFF_spring vFF_hour vFF_z vF_basins vF_spring vF_hour vF_z cFF_kind (va_cpy cFF_kind cF_kind (0 : Int32).toNatClampNeg (0 : Int32).toNatClampNeg (10 : Int32).toNatClampNeg) cFF_above (va_cpy cFF_above cF_above (0 : Int32).toNatClampNeg (0 : Int32).toNatClampNeg (10 : Int32).toNatClampNeg) cFF_edge (va_cpy cFF_edge cF_edge (0 : Int32).toNatClampNeg (0 : Int32).toNatClampNeg (10 : Int32).toNatClampNeg) cFF_pool (va_cpy cFF_pool cF_pool (0 : Int32).toNatClampNeg (0 : Int32).toNatClampNeg (10 : Int32).toNatClampNeg) cFF_store (va_cpy cFF_store cF_store (0 : Int32).toNatClampNeg (0 : Int32).toNatClampNeg (10 : Int32).toNatClampNeg) cFF_spot (va_cpy cFF_spot cF_spot (0 : Int32).toNatClampNeg (0 : Int32).toNatClampNeg (10 : Int32).toNatClampNeg)) := hD
  refine lv_aload_n hx hb dX2_become_90 rfl (lv_at hl 0 rfl) ?_
  refine lv_aload_n hx hb dX2_become_91 rfl (lv_at hl 1 rfl) ?_
  refine va_get (D := D) (ci := 2) (v := .int vFF_basins) (C := RX2) (T := TX2) (N := 10) hx hb hts in_X2 hown hK hP 0 rfl rfl 6 (by decide) q11 (fun _ h9 => h9) rfl dX2_become_92 ?_
  refine va_put (D := D) (ci := 2) (v := .int vFF_basins) (ty := .int) (C := RX2) (T := TX2) (N := 10) hx hb hts in_X2 tyX2 tyX2_ok nmX2 hown hK hP hD hS 1 rfl rfl 6 (by decide) q11 (fun _ h9 => h9) rfl (by decide +kernel) rfl rfl (Nat.le_of_ble_eq_true rfl) dX2_become_95 (fun H locs hP hD hS => ?_)
  have hP : va_P D vwCl (w_X2_become cyI cyJ cyZ cyB cyO aFF aF aFF_kind aF_kind aFF_above aF_above aFF_edge aF_edge aFF_pool aF_pool aFF_store aF_store aFF_spot aF_spot vFF_basins vFF_spring vFF_hour vFF_z vFF_basins vF_spring vF_hour vF_z cFF_kind (va_cpy cFF_kind cF_kind (0 : Int32).toNatClampNeg (0 : Int32).toNatClampNeg (10 : Int32).toNatClampNeg) cFF_above (va_cpy cFF_above cF_above (0 : Int32).toNatClampNeg (0 : Int32).toNatClampNeg (10 : Int32).toNatClampNeg) cFF_edge (va_cpy cFF_edge cF_edge (0 : Int32).toNatClampNeg (0 : Int32).toNatClampNeg (10 : Int32).toNatClampNeg) cFF_pool (va_cpy cFF_pool cF_pool (0 : Int32).toNatClampNeg (0 : Int32).toNatClampNeg (10 : Int32).toNatClampNeg) cFF_store (va_cpy cFF_store cF_store (0 : Int32).toNatClampNeg (0 : Int32).toNatClampNeg (10 : Int32).toNatClampNeg) cFF_spot (va_cpy cFF_spot cF_spot (0 : Int32).toNatClampNeg (0 : Int32).toNatClampNeg (10 : Int32).toNatClampNeg)) H := hP
  have hD : va_D A (w_X2_become cyI cyJ cyZ cyB cyO aFF aF aFF_kind aF_kind aFF_above aF_above aFF_edge aF_edge aFF_pool aF_pool aFF_store aF_store aFF_spot aF_spot vFF_basins vFF_spring vFF_hour vFF_z vFF_basins vF_spring vF_hour vF_z cFF_kind (va_cpy cFF_kind cF_kind (0 : Int32).toNatClampNeg (0 : Int32).toNatClampNeg (10 : Int32).toNatClampNeg) cFF_above (va_cpy cFF_above cF_above (0 : Int32).toNatClampNeg (0 : Int32).toNatClampNeg (10 : Int32).toNatClampNeg) cFF_edge (va_cpy cFF_edge cF_edge (0 : Int32).toNatClampNeg (0 : Int32).toNatClampNeg (10 : Int32).toNatClampNeg) cFF_pool (va_cpy cFF_pool cF_pool (0 : Int32).toNatClampNeg (0 : Int32).toNatClampNeg (10 : Int32).toNatClampNeg) cFF_store (va_cpy cFF_store cF_store (0 : Int32).toNatClampNeg (0 : Int32).toNatClampNeg (10 : Int32).toNatClampNeg) cFF_spot (va_cpy cFF_spot cF_spot (0 : Int32).toNatClampNeg (0 : Int32).toNatClampNeg (10 : Int32).toNatClampNeg)) := hD
  refine lv_aload_n hx hb dX2_become_98 rfl (lv_at hl 0 rfl) ?_
  refine lv_aload_n hx hb dX2_become_99 rfl (lv_at hl 1 rfl) ?_
  refine va_get (D := D) (ci := 2) (v := .int vFF_spring) (C := RX2) (T := TX2) (N := 10) hx hb hts in_X2 hown hK hP 0 rfl rfl 7 (by decide) q12 (fun _ h9 => h9) rfl dX2_become_100 ?_
  refine va_put (D := D) (ci := 2) (v := .int vFF_spring) (ty := .int) (C := RX2) (T := TX2) (N := 10) hx hb hts in_X2 tyX2 tyX2_ok nmX2 hown hK hP hD hS 1 rfl rfl 7 (by decide) q12 (fun _ h9 => h9) rfl (by decide +kernel) rfl rfl (Nat.le_of_ble_eq_true rfl) dX2_become_103 (fun H locs hP hD hS => ?_)
  have hP : va_P D vwCl (w_X2_become cyI cyJ cyZ cyB cyO aFF aF aFF_kind aF_kind aFF_above aF_above aFF_edge aF_edge aFF_pool aF_pool aFF_store aF_store aFF_spot aF_spot vFF_basins vFF_spring vFF_hour vFF_z vFF_basins vFF_spring vF_hour vF_z cFF_kind (va_cpy cFF_kind cF_kind (0 : Int32).toNatClampNeg (0 : Int32).toNatClampNeg (10 : Int32).toNatClampNeg) cFF_above (va_cpy cFF_above cF_above (0 : Int32).toNatClampNeg (0 : Int32).toNatClampNeg (10 : Int32).toNatClampNeg) cFF_edge (va_cpy cFF_edge cF_edge (0 : Int32).toNatClampNeg (0 : Int32).toNatClampNeg (10 : Int32).toNatClampNeg) cFF_pool (va_cpy cFF_pool cF_pool (0 : Int32).toNatClampNeg (0 : Int32).toNatClampNeg (10 : Int32).toNatClampNeg) cFF_store (va_cpy cFF_store cF_store (0 : Int32).toNatClampNeg (0 : Int32).toNatClampNeg (10 : Int32).toNatClampNeg) cFF_spot (va_cpy cFF_spot cF_spot (0 : Int32).toNatClampNeg (0 : Int32).toNatClampNeg (10 : Int32).toNatClampNeg)) H := hP
  have hD : va_D A (w_X2_become cyI cyJ cyZ cyB cyO aFF aF aFF_kind aF_kind aFF_above aF_above aFF_edge aF_edge aFF_pool aF_pool aFF_store aF_store aFF_spot aF_spot vFF_basins vFF_spring vFF_hour vFF_z vFF_basins vFF_spring vF_hour vF_z cFF_kind (va_cpy cFF_kind cF_kind (0 : Int32).toNatClampNeg (0 : Int32).toNatClampNeg (10 : Int32).toNatClampNeg) cFF_above (va_cpy cFF_above cF_above (0 : Int32).toNatClampNeg (0 : Int32).toNatClampNeg (10 : Int32).toNatClampNeg) cFF_edge (va_cpy cFF_edge cF_edge (0 : Int32).toNatClampNeg (0 : Int32).toNatClampNeg (10 : Int32).toNatClampNeg) cFF_pool (va_cpy cFF_pool cF_pool (0 : Int32).toNatClampNeg (0 : Int32).toNatClampNeg (10 : Int32).toNatClampNeg) cFF_store (va_cpy cFF_store cF_store (0 : Int32).toNatClampNeg (0 : Int32).toNatClampNeg (10 : Int32).toNatClampNeg) cFF_spot (va_cpy cFF_spot cF_spot (0 : Int32).toNatClampNeg (0 : Int32).toNatClampNeg (10 : Int32).toNatClampNeg)) := hD
  refine lv_aload_n hx hb dX2_become_106 rfl (lv_at hl 0 rfl) ?_
  refine lv_aload_n hx hb dX2_become_107 rfl (lv_at hl 1 rfl) ?_
  refine va_get (D := D) (ci := 2) (v := .int vFF_hour) (C := RX2) (T := TX2) (N := 10) hx hb hts in_X2 hown hK hP 0 rfl rfl 8 (by decide) q13 (fun _ h9 => h9) rfl dX2_become_108 ?_
  refine va_put (D := D) (ci := 2) (v := .int vFF_hour) (ty := .int) (C := RX2) (T := TX2) (N := 10) hx hb hts in_X2 tyX2 tyX2_ok nmX2 hown hK hP hD hS 1 rfl rfl 8 (by decide) q13 (fun _ h9 => h9) rfl (by decide +kernel) rfl rfl (Nat.le_of_ble_eq_true rfl) dX2_become_111 (fun H locs hP hD hS => ?_)
  have hP : va_P D vwCl (w_X2_become cyI cyJ cyZ cyB cyO aFF aF aFF_kind aF_kind aFF_above aF_above aFF_edge aF_edge aFF_pool aF_pool aFF_store aF_store aFF_spot aF_spot vFF_basins vFF_spring vFF_hour vFF_z vFF_basins vFF_spring vFF_hour vF_z cFF_kind (va_cpy cFF_kind cF_kind (0 : Int32).toNatClampNeg (0 : Int32).toNatClampNeg (10 : Int32).toNatClampNeg) cFF_above (va_cpy cFF_above cF_above (0 : Int32).toNatClampNeg (0 : Int32).toNatClampNeg (10 : Int32).toNatClampNeg) cFF_edge (va_cpy cFF_edge cF_edge (0 : Int32).toNatClampNeg (0 : Int32).toNatClampNeg (10 : Int32).toNatClampNeg) cFF_pool (va_cpy cFF_pool cF_pool (0 : Int32).toNatClampNeg (0 : Int32).toNatClampNeg (10 : Int32).toNatClampNeg) cFF_store (va_cpy cFF_store cF_store (0 : Int32).toNatClampNeg (0 : Int32).toNatClampNeg (10 : Int32).toNatClampNeg) cFF_spot (va_cpy cFF_spot cF_spot (0 : Int32).toNatClampNeg (0 : Int32).toNatClampNeg (10 : Int32).toNatClampNeg)) H := hP
  have hD : va_D A (w_X2_become cyI cyJ cyZ cyB cyO aFF aF aFF_kind aF_kind aFF_above aF_above aFF_edge aF_edge aFF_pool aF_pool aFF_store aF_store aFF_spot aF_spot vFF_basins vFF_spring vFF_hour vFF_z vFF_basins vFF_spring vFF_hour vF_z cFF_kind (va_cpy cFF_kind cF_kind (0 : Int32).toNatClampNeg (0 : Int32).toNatClampNeg (10 : Int32).toNatClampNeg) cFF_above (va_cpy cFF_above cF_above (0 : Int32).toNatClampNeg (0 : Int32).toNatClampNeg (10 : Int32).toNatClampNeg) cFF_edge (va_cpy cFF_edge cF_edge (0 : Int32).toNatClampNeg (0 : Int32).toNatClampNeg (10 : Int32).toNatClampNeg) cFF_pool (va_cpy cFF_pool cF_pool (0 : Int32).toNatClampNeg (0 : Int32).toNatClampNeg (10 : Int32).toNatClampNeg) cFF_store (va_cpy cFF_store cF_store (0 : Int32).toNatClampNeg (0 : Int32).toNatClampNeg (10 : Int32).toNatClampNeg) cFF_spot (va_cpy cFF_spot cF_spot (0 : Int32).toNatClampNeg (0 : Int32).toNatClampNeg (10 : Int32).toNatClampNeg)) := hD
  refine lv_aload_n hx hb dX2_become_114 rfl (lv_at hl 0 rfl) ?_
  refine lv_aload_n hx hb dX2_become_115 rfl (lv_at hl 1 rfl) ?_
  refine va_get (D := D) (ci := 2) (v := .int vFF_z) (C := RX2) (T := TX2) (N := 10) hx hb hts in_X2 hown hK hP 0 rfl rfl 9 (by decide) q14 (fun _ h9 => h9) rfl dX2_become_116 ?_
  refine va_put (D := D) (ci := 2) (v := .int vFF_z) (ty := .int) (C := RX2) (T := TX2) (N := 10) hx hb hts in_X2 tyX2 tyX2_ok nmX2 hown hK hP hD hS 1 rfl rfl 9 (by decide) q14 (fun _ h9 => h9) rfl (by decide +kernel) rfl rfl (Nat.le_of_ble_eq_true rfl) dX2_become_119 (fun H locs hP hD hS => ?_)
  have hP : va_P D vwCl (w_X2_become cyI cyJ cyZ cyB cyO aFF aF aFF_kind aF_kind aFF_above aF_above aFF_edge aF_edge aFF_pool aF_pool aFF_store aF_store aFF_spot aF_spot vFF_basins vFF_spring vFF_hour vFF_z vFF_basins vFF_spring vFF_hour vFF_z cFF_kind (va_cpy cFF_kind cF_kind (0 : Int32).toNatClampNeg (0 : Int32).toNatClampNeg (10 : Int32).toNatClampNeg) cFF_above (va_cpy cFF_above cF_above (0 : Int32).toNatClampNeg (0 : Int32).toNatClampNeg (10 : Int32).toNatClampNeg) cFF_edge (va_cpy cFF_edge cF_edge (0 : Int32).toNatClampNeg (0 : Int32).toNatClampNeg (10 : Int32).toNatClampNeg) cFF_pool (va_cpy cFF_pool cF_pool (0 : Int32).toNatClampNeg (0 : Int32).toNatClampNeg (10 : Int32).toNatClampNeg) cFF_store (va_cpy cFF_store cF_store (0 : Int32).toNatClampNeg (0 : Int32).toNatClampNeg (10 : Int32).toNatClampNeg) cFF_spot (va_cpy cFF_spot cF_spot (0 : Int32).toNatClampNeg (0 : Int32).toNatClampNeg (10 : Int32).toNatClampNeg)) H := hP
  have hD : va_D A (w_X2_become cyI cyJ cyZ cyB cyO aFF aF aFF_kind aF_kind aFF_above aF_above aFF_edge aF_edge aFF_pool aF_pool aFF_store aF_store aFF_spot aF_spot vFF_basins vFF_spring vFF_hour vFF_z vFF_basins vFF_spring vFF_hour vFF_z cFF_kind (va_cpy cFF_kind cF_kind (0 : Int32).toNatClampNeg (0 : Int32).toNatClampNeg (10 : Int32).toNatClampNeg) cFF_above (va_cpy cFF_above cF_above (0 : Int32).toNatClampNeg (0 : Int32).toNatClampNeg (10 : Int32).toNatClampNeg) cFF_edge (va_cpy cFF_edge cF_edge (0 : Int32).toNatClampNeg (0 : Int32).toNatClampNeg (10 : Int32).toNatClampNeg) cFF_pool (va_cpy cFF_pool cF_pool (0 : Int32).toNatClampNeg (0 : Int32).toNatClampNeg (10 : Int32).toNatClampNeg) cFF_store (va_cpy cFF_store cF_store (0 : Int32).toNatClampNeg (0 : Int32).toNatClampNeg (10 : Int32).toNatClampNeg) cFF_spot (va_cpy cFF_spot cF_spot (0 : Int32).toNatClampNeg (0 : Int32).toNatClampNeg (10 : Int32).toNatClampNeg)) := hD
  obtain rfl := Option.some.inj h
  exact hret _ _ _ _ hP hD hS dX2_become_122 
/-! ===== X2_add ===== -/
def w_X2_add (cyI cyJ cyZ cyB cyO : ClassId) (aF aF_kind aF_above aF_edge aF_pool aF_store aF_spot : Nat) (vF_basins : Int32) (vF_spring : Int32) (vF_hour : Int32) (vF_z : Int32) (cF_kind : Nat → Int32) (cF_above : Nat → Int32) (cF_edge : Nat → Int32) (cF_pool : Nat → Int32) (cF_store : Nat → Int32) : va_W := [(aF, .inr (2, [.ref aF_kind, .ref aF_above, .ref aF_edge, .ref aF_pool, .ref aF_store, .ref aF_spot, .int vF_basins, .int vF_spring, .int vF_hour, .int vF_z])), (aF_kind, .inl (cyI, 10, .inl cF_kind)), (aF_above, .inl (cyI, 10, .inl cF_above)), (aF_edge, .inl (cyI, 10, .inl cF_edge)), (aF_pool, .inl (cyI, 10, .inl cF_pool)), (aF_store, .inl (cyI, 10, .inl cF_store))]
set_option maxHeartbeats 4000000 in
set_option maxRecDepth 100000 in
theorem t_X2_add (l : Launch) (D : va_G) (cyI cyJ cyZ cyB cyO : ClassId) (aF aF_kind aF_above aF_edge aF_pool aF_store aF_spot : Nat) (vF_basins : Int32) (vF_spring : Int32) (vF_hour : Int32) (vF_z : Int32) (cF_kind : Nat → Int32) (cF_above : Nat → Int32) (cF_edge : Nat → Int32) (cF_pool : Nat → Int32) (cF_store : Nat → Int32) (x1 : Int32) (x2 : Int32) (x3 : Int32) (out : Int32 × Int32 × (Nat → Int32) × (Nat → Int32) × (Nat → Int32) × (Nat → Int32) × (Nat → Int32)) (h : f_X2_add x1 x2 x3 vF_basins cF_kind cF_above cF_edge cF_pool cF_store = some out) : Mi l yX2_add wsX2_add ({ frames := 0, cells := 0, slots := 0, locals := 0 } : Room) D (tyA cyI cyJ cyZ cyB cyO) [.ref aF, .int x1, .int x2, .int x3] (w_X2_add cyI cyJ cyZ cyB cyO aF aF_kind aF_above aF_edge aF_pool aF_store aF_spot vF_basins vF_spring vF_hour vF_z cF_kind cF_above cF_edge cF_pool cF_store) (w_X2_add cyI cyJ cyZ cyB cyO aF aF_kind aF_above aF_edge aF_pool aF_store aF_spot out.2.1 vF_spring vF_hour vF_z out.2.2.1 out.2.2.2.1 out.2.2.2.2.1 out.2.2.2.2.2.1 out.2.2.2.2.2.2) out.1 := by
  refine Mi.mk (cc := cX2_add) (maxL := 5) (rt := .int) (own := RX2) (by decide) rfl rfl (Nat.le_of_ble_eq_true rfl) ?_
  intro p e s m args below meth c A Q F hK hP hD hA hret ls hl
  obtain ⟨hx, hb, hml, hown, hts⟩ := id F
  have hS : va_S A s.heap s.heap [] := va_S.rf
  have hl : lv_has ls 5 [(0, .ref aF), (1, .int x1), (2, .int x2), (3, .int x3)] := hl
  have in_X2 : ∀ w ∈ wsX20, w ∈ wsX2_add := by decide +kernel
  have q1 := hts (Cond.fieldLink RX2 43 "ThirdFountain$Fountain" "basins" "I") (List.mem_of_getElem? (i := 1) rfl)
  have q2 := hts (Cond.fieldLink RX2 9 "ThirdFountain$Fountain" "kind" "[I") (List.mem_of_getElem? (i := 2) rfl)
  have q3 := hts (Cond.fieldLink RX2 15 "ThirdFountain$Fountain" "above" "[I") (List.mem_of_getElem? (i := 3) rfl)
  have q4 := hts (Cond.fieldLink RX2 18 "ThirdFountain$Fountain" "edge" "[I") (List.mem_of_getElem? (i := 4) rfl)
  have q5 := hts (Cond.fieldLink RX2 21 "ThirdFountain$Fountain" "pool" "[I") (List.mem_of_getElem? (i := 5) rfl)
  have q6 := hts (Cond.fieldLink RX2 24 "ThirdFountain$Fountain" "store" "[I") (List.mem_of_getElem? (i := 6) rfl)
  unfold f_X2_add at h
  refine lv_aload_n hx hb dX2_add_0 rfl (lv_at hl 0 rfl) ?_
  refine va_get (D := D) (ci := 2) (v := .int vF_basins) (C := RX2) (T := TX2) (N := 10) hx hb hts in_X2 hown hK hP 0 rfl rfl 6 (by decide) q1 (fun _ h9 => h9) rfl dX2_add_1 ?_
  refine lv_istore (lv' := [(4, .int vF_basins), (0, .ref aF), (1, .int x1), (2, .int x2), (3, .int x3)]) hx hb dX2_add_4 hl (by decide) rfl (fun ls hl => ?_)
  refine lv_iload hx hb dX2_add_6 (lv_at hl 0 rfl) ?_
  refine lv_if_lt (tgt := 18) hx hb dX2_add_8 (by decide) (fun c1 => ?_) (fun c1 => ?_)
  · have h := br_pos c1 h
    refine lv_iconst (v := -1) hx hb dX2_add_18 (by decide) ?_
    obtain rfl := Option.some.inj h
    exact hret _ _ _ _ _ hP hD hS dX2_add_19 rfl rfl
  · have h := br_neg c1 h
    refine lv_iload hx hb dX2_add_11 (lv_at hl 0 rfl) ?_
    refine lv_bipush (v := 10) hx hb dX2_add_13 (by decide) ?_
    refine lv_icmp_lt (tgt := 20) hx hb dX2_add_15 (by decide) (fun c2 => ?_) (fun c2 => ?_)
    · have h := br_pos c2 h
      refine lv_aload_n hx hb dX2_add_20 rfl (lv_at hl 1 rfl) ?_
      refine va_get (D := D) (ci := 2) (v := .ref aF_kind) (C := RX2) (T := TX2) (N := 10) hx hb hts in_X2 hown hK hP 0 rfl rfl 0 (by decide) q2 (fun _ h9 => h9) rfl dX2_add_21 ?_
      refine lv_iload hx hb dX2_add_24 (lv_at hl 0 rfl) ?_
      refine lv_iload_n hx hb dX2_add_26 rfl (lv_at hl 2 rfl) ?_
      obtain ⟨g3, h⟩ := gd_some h
      refine va_iast hx hb hK hP hD hS 1 0 rfl rfl g3 dX2_add_27 (fun H locs hP hD hS => ?_)
      have hP : va_P D vwCl (w_X2_add cyI cyJ cyZ cyB cyO aF aF_kind aF_above aF_edge aF_pool aF_store aF_spot vF_basins vF_spring vF_hour vF_z (upd cF_kind vF_basins.toNatClampNeg x1) cF_above cF_edge cF_pool cF_store) H := hP
      have hD : va_D A (w_X2_add cyI cyJ cyZ cyB cyO aF aF_kind aF_above aF_edge aF_pool aF_store aF_spot vF_basins vF_spring vF_hour vF_z (upd cF_kind vF_basins.toNatClampNeg x1) cF_above cF_edge cF_pool cF_store) := hD
      refine lv_aload_n hx hb dX2_add_28 rfl (lv_at hl 1 rfl) ?_
      refine va_get (D := D) (ci := 2) (v := .ref aF_above) (C := RX2) (T := TX2) (N := 10) hx hb hts in_X2 hown hK hP 0 rfl rfl 1 (by decide) q3 (fun _ h9 => h9) rfl dX2_add_29 ?_
      refine lv_iload hx hb dX2_add_32 (lv_at hl 0 rfl) ?_
      refine lv_iload_n hx hb dX2_add_34 rfl (lv_at hl 3 rfl) ?_
      obtain ⟨g4, h⟩ := gd_some h
      refine va_iast hx hb hK hP hD hS 2 0 rfl rfl g4 dX2_add_35 (fun H locs hP hD hS => ?_)
      have hP : va_P D vwCl (w_X2_add cyI cyJ cyZ cyB cyO aF aF_kind aF_above aF_edge aF_pool aF_store aF_spot vF_basins vF_spring vF_hour vF_z (upd cF_kind vF_basins.toNatClampNeg x1) (upd cF_above vF_basins.toNatClampNeg x2) cF_edge cF_pool cF_store) H := hP
      have hD : va_D A (w_X2_add cyI cyJ cyZ cyB cyO aF aF_kind aF_above aF_edge aF_pool aF_store aF_spot vF_basins vF_spring vF_hour vF_z (upd cF_kind vF_basins.toNatClampNeg x1) (upd cF_above vF_basins.toNatClampNeg x2) cF_edge cF_pool cF_store) := hD
      refine lv_aload_n hx hb dX2_add_36 rfl (lv_at hl 1 rfl) ?_
      refine va_get (D := D) (ci := 2) (v := .ref aF_edge) (C := RX2) (T := TX2) (N := 10) hx hb hts in_X2 hown hK hP 0 rfl rfl 2 (by decide) q4 (fun _ h9 => h9) rfl dX2_add_37 ?_
      refine lv_iload hx hb dX2_add_40 (lv_at hl 0 rfl) ?_
      refine lv_iload_n hx hb dX2_add_42 rfl (lv_at hl 4 rfl) ?_
      obtain ⟨g5, h⟩ := gd_some h
      refine va_iast hx hb hK hP hD hS 3 0 rfl rfl g5 dX2_add_43 (fun H locs hP hD hS => ?_)
      have hP : va_P D vwCl (w_X2_add cyI cyJ cyZ cyB cyO aF aF_kind aF_above aF_edge aF_pool aF_store aF_spot vF_basins vF_spring vF_hour vF_z (upd cF_kind vF_basins.toNatClampNeg x1) (upd cF_above vF_basins.toNatClampNeg x2) (upd cF_edge vF_basins.toNatClampNeg x3) cF_pool cF_store) H := hP
      have hD : va_D A (w_X2_add cyI cyJ cyZ cyB cyO aF aF_kind aF_above aF_edge aF_pool aF_store aF_spot vF_basins vF_spring vF_hour vF_z (upd cF_kind vF_basins.toNatClampNeg x1) (upd cF_above vF_basins.toNatClampNeg x2) (upd cF_edge vF_basins.toNatClampNeg x3) cF_pool cF_store) := hD
      refine lv_aload_n hx hb dX2_add_44 rfl (lv_at hl 1 rfl) ?_
      refine va_get (D := D) (ci := 2) (v := .ref aF_pool) (C := RX2) (T := TX2) (N := 10) hx hb hts in_X2 hown hK hP 0 rfl rfl 3 (by decide) q5 (fun _ h9 => h9) rfl dX2_add_45 ?_
      refine lv_iload hx hb dX2_add_48 (lv_at hl 0 rfl) ?_
      refine lv_iconst (v := 0) hx hb dX2_add_50 (by decide) ?_
      obtain ⟨g6, h⟩ := gd_some h
      refine va_iast hx hb hK hP hD hS 4 0 rfl rfl g6 dX2_add_51 (fun H locs hP hD hS => ?_)
      have hP : va_P D vwCl (w_X2_add cyI cyJ cyZ cyB cyO aF aF_kind aF_above aF_edge aF_pool aF_store aF_spot vF_basins vF_spring vF_hour vF_z (upd cF_kind vF_basins.toNatClampNeg x1) (upd cF_above vF_basins.toNatClampNeg x2) (upd cF_edge vF_basins.toNatClampNeg x3) (upd cF_pool vF_basins.toNatClampNeg (0 : Int32)) cF_store) H := hP
      have hD : va_D A (w_X2_add cyI cyJ cyZ cyB cyO aF aF_kind aF_above aF_edge aF_pool aF_store aF_spot vF_basins vF_spring vF_hour vF_z (upd cF_kind vF_basins.toNatClampNeg x1) (upd cF_above vF_basins.toNatClampNeg x2) (upd cF_edge vF_basins.toNatClampNeg x3) (upd cF_pool vF_basins.toNatClampNeg (0 : Int32)) cF_store) := hD
      refine lv_aload_n hx hb dX2_add_52 rfl (lv_at hl 1 rfl) ?_
      refine va_get (D := D) (ci := 2) (v := .ref aF_store) (C := RX2) (T := TX2) (N := 10) hx hb hts in_X2 hown hK hP 0 rfl rfl 4 (by decide) q6 (fun _ h9 => h9) rfl dX2_add_53 ?_
      refine lv_iload hx hb dX2_add_56 (lv_at hl 0 rfl) ?_
      refine lv_iconst (v := 0) hx hb dX2_add_58 (by decide) ?_
      obtain ⟨g7, h⟩ := gd_some h
      refine va_iast hx hb hK hP hD hS 5 0 rfl rfl g7 dX2_add_59 (fun H locs hP hD hS => ?_)
      have hP : va_P D vwCl (w_X2_add cyI cyJ cyZ cyB cyO aF aF_kind aF_above aF_edge aF_pool aF_store aF_spot vF_basins vF_spring vF_hour vF_z (upd cF_kind vF_basins.toNatClampNeg x1) (upd cF_above vF_basins.toNatClampNeg x2) (upd cF_edge vF_basins.toNatClampNeg x3) (upd cF_pool vF_basins.toNatClampNeg (0 : Int32)) (upd cF_store vF_basins.toNatClampNeg (0 : Int32))) H := hP
      have hD : va_D A (w_X2_add cyI cyJ cyZ cyB cyO aF aF_kind aF_above aF_edge aF_pool aF_store aF_spot vF_basins vF_spring vF_hour vF_z (upd cF_kind vF_basins.toNatClampNeg x1) (upd cF_above vF_basins.toNatClampNeg x2) (upd cF_edge vF_basins.toNatClampNeg x3) (upd cF_pool vF_basins.toNatClampNeg (0 : Int32)) (upd cF_store vF_basins.toNatClampNeg (0 : Int32))) := hD
      refine lv_aload_n hx hb dX2_add_60 rfl (lv_at hl 1 rfl) ?_
      refine lv_dup hx hb dX2_add_61 rfl ?_
      refine va_get (D := D) (ci := 2) (v := .int vF_basins) (C := RX2) (T := TX2) (N := 10) hx hb hts in_X2 hown hK hP 0 rfl rfl 6 (by decide) q1 (fun _ h9 => h9) rfl dX2_add_62 ?_
      refine lv_iconst (v := 1) hx hb dX2_add_65 (by decide) ?_
      refine lv_iadd hx hb dX2_add_66 ?_
      refine va_put (D := D) (ci := 2) (v := .int (vF_basins + (1 : Int32))) (ty := .int) (C := RX2) (T := TX2) (N := 10) hx hb hts in_X2 tyX2 tyX2_ok nmX2 hown hK hP hD hS 0 rfl rfl 6 (by decide) q1 (fun _ h9 => h9) rfl (by decide +kernel) rfl rfl (Nat.le_of_ble_eq_true rfl) dX2_add_67 (fun H locs hP hD hS => ?_)
      have hP : va_P D vwCl (w_X2_add cyI cyJ cyZ cyB cyO aF aF_kind aF_above aF_edge aF_pool aF_store aF_spot (vF_basins + (1 : Int32)) vF_spring vF_hour vF_z (upd cF_kind vF_basins.toNatClampNeg x1) (upd cF_above vF_basins.toNatClampNeg x2) (upd cF_edge vF_basins.toNatClampNeg x3) (upd cF_pool vF_basins.toNatClampNeg (0 : Int32)) (upd cF_store vF_basins.toNatClampNeg (0 : Int32))) H := hP
      have hD : va_D A (w_X2_add cyI cyJ cyZ cyB cyO aF aF_kind aF_above aF_edge aF_pool aF_store aF_spot (vF_basins + (1 : Int32)) vF_spring vF_hour vF_z (upd cF_kind vF_basins.toNatClampNeg x1) (upd cF_above vF_basins.toNatClampNeg x2) (upd cF_edge vF_basins.toNatClampNeg x3) (upd cF_pool vF_basins.toNatClampNeg (0 : Int32)) (upd cF_store vF_basins.toNatClampNeg (0 : Int32))) := hD
      refine lv_iload hx hb dX2_add_70 (lv_at hl 0 rfl) ?_
      obtain rfl := Option.some.inj h
      exact hret _ _ _ _ _ hP hD hS dX2_add_72 rfl rfl
    · have h := br_neg c2 h
      refine lv_iconst (v := -1) hx hb dX2_add_18 (by decide) ?_
      obtain rfl := Option.some.inj h
      exact hret _ _ _ _ _ hP hD hS dX2_add_19 rfl rfl
/-! ===== X2_widthUnder ===== -/
def w_X2_widthUnder (cyI cyJ cyZ cyB cyO : ClassId) (aF aF_above aF_edge aF_kind aF_pool aF_store aF_spot : Nat) (vF_basins : Int32) (vF_spring : Int32) (vF_hour : Int32) (vF_z : Int32) (cF_above : Nat → Int32) (cF_edge : Nat → Int32) : va_W := [(aF, .inr (2, [.ref aF_kind, .ref aF_above, .ref aF_edge, .ref aF_pool, .ref aF_store, .ref aF_spot, .int vF_basins, .int vF_spring, .int vF_hour, .int vF_z])), (aF_above, .inl (cyI, 10, .inl cF_above)), (aF_edge, .inl (cyI, 10, .inl cF_edge))]
set_option maxHeartbeats 4000000 in
set_option maxRecDepth 100000 in
theorem t_X2_widthUnder (l : Launch) (D : va_G) (cyI cyJ cyZ cyB cyO : ClassId) (aF aF_above aF_edge aF_kind aF_pool aF_store aF_spot : Nat) (vF_basins : Int32) (vF_spring : Int32) (vF_hour : Int32) (vF_z : Int32) (cF_above : Nat → Int32) (cF_edge : Nat → Int32) (x1 : Int32) (out : Int32) (h : f_X2_widthUnder x1 vF_basins cF_above cF_edge = some out) : Mi l yX2_widthUnder wsX2_widthUnder ({ frames := 0, cells := 0, slots := 0, locals := 0 } : Room) D (tyA cyI cyJ cyZ cyB cyO) [.ref aF, .int x1] (w_X2_widthUnder cyI cyJ cyZ cyB cyO aF aF_above aF_edge aF_kind aF_pool aF_store aF_spot vF_basins vF_spring vF_hour vF_z cF_above cF_edge) (w_X2_widthUnder cyI cyJ cyZ cyB cyO aF aF_above aF_edge aF_kind aF_pool aF_store aF_spot vF_basins vF_spring vF_hour vF_z cF_above cF_edge) out := by
  refine Mi.mk (cc := cX2_widthUnder) (maxL := 4) (rt := .int) (own := RX2) (by decide) rfl rfl (Nat.le_of_ble_eq_true rfl) ?_
  intro p e s m args below meth c A Q F hK hP hD hA hret ls hl
  obtain ⟨hx, hb, hml, hown, hts⟩ := id F
  have hS : va_S A s.heap s.heap [] := va_S.rf
  have hl : lv_has ls 4 [(0, .ref aF), (1, .int x1)] := hl
  have in_X2 : ∀ w ∈ wsX20, w ∈ wsX2_widthUnder := by decide +kernel
  have q1 := hts (Cond.fieldLink RX2 43 "ThirdFountain$Fountain" "basins" "I") (List.mem_of_getElem? (i := 1) rfl)
  have q2 := hts (Cond.fieldLink RX2 15 "ThirdFountain$Fountain" "above" "[I") (List.mem_of_getElem? (i := 2) rfl)
  have q3 := hts (Cond.fieldLink RX2 18 "ThirdFountain$Fountain" "edge" "[I") (List.mem_of_getElem? (i := 3) rfl)
  unfold f_X2_widthUnder at h
  refine lv_iconst (v := 0) hx hb dX2_widthUnder_0 (by decide) ?_
  refine lv_istore_n (lv' := [(2, .int (0 : Int32)), (0, .ref aF), (1, .int x1)]) hx hb dX2_widthUnder_1 rfl hl (by decide) rfl (fun ls hl => ?_)
  refine lv_iconst (v := 0) hx hb dX2_widthUnder_2 (by decide) ?_
  refine lv_istore_n (lv' := [(3, .int (0 : Int32)), (2, .int (0 : Int32)), (0, .ref aF), (1, .int x1)]) hx hb dX2_widthUnder_3 rfl hl (by decide) rfl (fun ls hl => ?_)
  have lp4 : ∀ (k4 : Nat) (y2 : Int32) (y3 : Int32) (H : Heap) (locs : List Loc) (ls : Array Slot), va_P D vwCl (w_X2_widthUnder cyI cyJ cyZ cyB cyO aF aF_above aF_edge aF_kind aF_pool aF_store aF_spot vF_basins vF_spring vF_hour vF_z cF_above cF_edge) H → va_D A (w_X2_widthUnder cyI cyJ cyZ cyB cyO aF aF_above aF_edge aF_kind aF_pool aF_store aF_spot vF_basins vF_spring vF_hour vF_z cF_above cF_edge) → va_S A s.heap H locs → lv_has ls 4 [(2, .int y2), (3, .int y3), (0, .ref aF), (1, .int x1)] → (f_X2_widthUnder_L4 x1 vF_basins cF_above cF_edge k4) (y2, y3) = some out → W p l e ({ frames := 0, cells := 0, slots := 0, locals := 0 } : Room) s m args below meth c H locs 0 0 Q (F0 m 4 ls []) := by
    intro k4
    induction k4 with
    | zero => intro y2 y3 H locs ls hP hD hS hl h; cases h
    | succ k4 ih4 =>
      intro y2 y3 H locs ls hP hD hS hl h
      have h : f_X2_widthUnder_L4_b x1 vF_basins cF_above cF_edge (f_X2_widthUnder_L4 x1 vF_basins cF_above cF_edge k4) y2 y3 = some out := h
      unfold f_X2_widthUnder_L4_b at h
      refine lv_iload_n hx hb dX2_widthUnder_4 rfl (lv_at hl 1 rfl) ?_
      refine lv_aload_n hx hb dX2_widthUnder_5 rfl (lv_at hl 2 rfl) ?_
      refine va_get (D := D) (ci := 2) (v := .int vF_basins) (C := RX2) (T := TX2) (N := 10) hx hb hts in_X2 hown hK hP 0 rfl rfl 6 (by decide) q1 (fun _ h9 => h9) rfl dX2_widthUnder_6 ?_
      refine lv_icmp_ge (tgt := 37) hx hb dX2_widthUnder_9 (by decide) (fun c1 => ?_) (fun c1 => ?_)
      · have h := br_pos c1 h
        refine lv_iload_n hx hb dX2_widthUnder_37 rfl (lv_at hl 0 rfl) ?_
        obtain rfl := Option.some.inj h
        exact hret _ _ _ _ _ hP hD hS dX2_widthUnder_38 rfl rfl
      · have h := br_neg c1 h
        refine lv_aload_n hx hb dX2_widthUnder_12 rfl (lv_at hl 2 rfl) ?_
        refine va_get (D := D) (ci := 2) (v := .ref aF_above) (C := RX2) (T := TX2) (N := 10) hx hb hts in_X2 hown hK hP 0 rfl rfl 1 (by decide) q2 (fun _ h9 => h9) rfl dX2_widthUnder_13 ?_
        refine lv_iload_n hx hb dX2_widthUnder_16 rfl (lv_at hl 1 rfl) ?_
        obtain ⟨g2, h⟩ := gd_some h
        refine va_iald hx hb hK hP 1 0 rfl rfl g2 dX2_widthUnder_17 ?_
        refine lv_iload_n hx hb dX2_widthUnder_18 rfl (lv_at hl 3 rfl) ?_
        refine lv_icmp_ne (tgt := 31) hx hb dX2_widthUnder_19 (by decide) (fun c3 => ?_) (fun c3 => ?_)
        · have h := br_neg c3 h
          refine lv_iinc (v := y3 + 1) (lv' := [(3, .int (y3 + 1)), (2, .int y2), (0, .ref aF), (1, .int x1)]) hx hb dX2_widthUnder_31 hl (k := 1) rfl rfl (by decide) rfl (fun ls hl => ?_)
          refine lv_goto (tgt := 4) hx hb dX2_widthUnder_34 (by decide) ?_
          exact ih4 y2 (y3 + 1) _ _ _ hP hD hS (lv_sub hl [1, 0, 2, 3] rfl) h
        · have h := br_pos c3 h
          refine lv_iload_n hx hb dX2_widthUnder_22 rfl (lv_at hl 0 rfl) ?_
          refine lv_aload_n hx hb dX2_widthUnder_23 rfl (lv_at hl 2 rfl) ?_
          refine va_get (D := D) (ci := 2) (v := .ref aF_edge) (C := RX2) (T := TX2) (N := 10) hx hb hts in_X2 hown hK hP 0 rfl rfl 2 (by decide) q3 (fun _ h9 => h9) rfl dX2_widthUnder_24 ?_
          refine lv_iload_n hx hb dX2_widthUnder_27 rfl (lv_at hl 1 rfl) ?_
          obtain ⟨g4, h⟩ := gd_some h
          refine va_iald hx hb hK hP 2 0 rfl rfl g4 dX2_widthUnder_28 ?_
          refine lv_iadd hx hb dX2_widthUnder_29 ?_
          refine lv_topi (fun z5 ez5 => ?_)
          have h := nm_at ez5 h
          refine lv_istore_n (lv' := [(2, .int z5), (3, .int y3), (0, .ref aF), (1, .int x1)]) hx hb dX2_widthUnder_30 rfl hl (by decide) rfl (fun ls hl => ?_)
          refine lv_iinc (v := y3 + 1) (lv' := [(3, .int (y3 + 1)), (2, .int z5), (0, .ref aF), (1, .int x1)]) hx hb dX2_widthUnder_31 hl (k := 1) rfl rfl (by decide) rfl (fun ls hl => ?_)
          refine lv_goto (tgt := 4) hx hb dX2_widthUnder_34 (by decide) ?_
          exact ih4 z5 (y3 + 1) _ _ _ hP hD hS (lv_sub hl [1, 0, 2, 3] rfl) h
  exact lp4 FU (0 : Int32) (0 : Int32) _ _ _ hP hD hS (lv_sub hl [1, 0, 2, 3] rfl) h
/-! ===== X2_sum ===== -/
def w_X2_sum (cyI cyJ cyZ cyB cyO : ClassId) (ar1 aF aF_kind aF_above aF_edge aF_pool aF_store aF_spot : Nat) (cr1 : Nat → Int32) (vF_basins : Int32) (vF_spring : Int32) (vF_hour : Int32) (vF_z : Int32) : va_W := [(ar1, .inl (cyI, 10, .inl cr1)), (aF, .inr (2, [.ref aF_kind, .ref aF_above, .ref aF_edge, .ref aF_pool, .ref aF_store, .ref aF_spot, .int vF_basins, .int vF_spring, .int vF_hour, .int vF_z]))]
set_option maxHeartbeats 4000000 in
set_option maxRecDepth 100000 in
theorem t_X2_sum (l : Launch) (D : va_G) (cyI cyJ cyZ cyB cyO : ClassId) (ar1 aF aF_kind aF_above aF_edge aF_pool aF_store aF_spot : Nat) (cr1 : Nat → Int32) (vF_basins : Int32) (vF_spring : Int32) (vF_hour : Int32) (vF_z : Int32) (out : Int32) (h : f_X2_sum cr1 vF_basins = some out) : Mi l yX2_sum wsX2_sum ({ frames := 0, cells := 0, slots := 0, locals := 0 } : Room) D (tyA cyI cyJ cyZ cyB cyO) [.ref aF, .ref ar1] (w_X2_sum cyI cyJ cyZ cyB cyO ar1 aF aF_kind aF_above aF_edge aF_pool aF_store aF_spot cr1 vF_basins vF_spring vF_hour vF_z) (w_X2_sum cyI cyJ cyZ cyB cyO ar1 aF aF_kind aF_above aF_edge aF_pool aF_store aF_spot cr1 vF_basins vF_spring vF_hour vF_z) out := by
  refine Mi.mk (cc := cX2_sum) (maxL := 4) (rt := .int) (own := RX2) (by decide) rfl rfl (Nat.le_of_ble_eq_true rfl) ?_
  intro p e s m args below meth c A Q F hK hP hD hA hret ls hl
  obtain ⟨hx, hb, hml, hown, hts⟩ := id F
  have hS : va_S A s.heap s.heap [] := va_S.rf
  have hl : lv_has ls 4 [(0, .ref aF), (1, .ref ar1)] := hl
  have in_X2 : ∀ w ∈ wsX20, w ∈ wsX2_sum := by decide +kernel
  have q1 := hts (Cond.fieldLink RX2 43 "ThirdFountain$Fountain" "basins" "I") (List.mem_of_getElem? (i := 1) rfl)
  unfold f_X2_sum at h
  refine lv_iconst (v := 0) hx hb dX2_sum_0 (by decide) ?_
  refine lv_istore_n (lv' := [(2, .int (0 : Int32)), (0, .ref aF), (1, .ref ar1)]) hx hb dX2_sum_1 rfl hl (by decide) rfl (fun ls hl => ?_)
  refine lv_iconst (v := 0) hx hb dX2_sum_2 (by decide) ?_
  refine lv_istore_n (lv' := [(3, .int (0 : Int32)), (2, .int (0 : Int32)), (0, .ref aF), (1, .ref ar1)]) hx hb dX2_sum_3 rfl hl (by decide) rfl (fun ls hl => ?_)
  have lp4 : ∀ (k4 : Nat) (y2 : Int32) (y3 : Int32) (H : Heap) (locs : List Loc) (ls : Array Slot), va_P D vwCl (w_X2_sum cyI cyJ cyZ cyB cyO ar1 aF aF_kind aF_above aF_edge aF_pool aF_store aF_spot cr1 vF_basins vF_spring vF_hour vF_z) H → va_D A (w_X2_sum cyI cyJ cyZ cyB cyO ar1 aF aF_kind aF_above aF_edge aF_pool aF_store aF_spot cr1 vF_basins vF_spring vF_hour vF_z) → va_S A s.heap H locs → lv_has ls 4 [(2, .int y2), (3, .int y3), (0, .ref aF), (1, .ref ar1)] → (f_X2_sum_L4 cr1 vF_basins k4) (y2, y3) = some out → W p l e ({ frames := 0, cells := 0, slots := 0, locals := 0 } : Room) s m args below meth c H locs 0 0 Q (F0 m 4 ls []) := by
    intro k4
    induction k4 with
    | zero => intro y2 y3 H locs ls hP hD hS hl h; cases h
    | succ k4 ih4 =>
      intro y2 y3 H locs ls hP hD hS hl h
      have h : f_X2_sum_L4_b cr1 vF_basins (f_X2_sum_L4 cr1 vF_basins k4) y2 y3 = some out := h
      unfold f_X2_sum_L4_b at h
      refine lv_iload_n hx hb dX2_sum_4 rfl (lv_at hl 1 rfl) ?_
      refine lv_aload_n hx hb dX2_sum_5 rfl (lv_at hl 2 rfl) ?_
      refine va_get (D := D) (ci := 2) (v := .int vF_basins) (C := RX2) (T := TX2) (N := 10) hx hb hts in_X2 hown hK hP 1 rfl rfl 6 (by decide) q1 (fun _ h9 => h9) rfl dX2_sum_6 ?_
      refine lv_icmp_ge (tgt := 24) hx hb dX2_sum_9 (by decide) (fun c1 => ?_) (fun c1 => ?_)
      · have h := br_pos c1 h
        refine lv_iload_n hx hb dX2_sum_24 rfl (lv_at hl 0 rfl) ?_
        obtain rfl := Option.some.inj h
        exact hret _ _ _ _ _ hP hD hS dX2_sum_25 rfl rfl
      · have h := br_neg c1 h
        refine lv_iload_n hx hb dX2_sum_12 rfl (lv_at hl 0 rfl) ?_
        refine lv_aload_n hx hb dX2_sum_13 rfl (lv_at hl 3 rfl) ?_
        refine lv_iload_n hx hb dX2_sum_14 rfl (lv_at hl 1 rfl) ?_
        obtain ⟨g2, h⟩ := gd_some h
        refine va_iald hx hb hK hP 0 0 rfl rfl g2 dX2_sum_15 ?_
        refine lv_iadd hx hb dX2_sum_16 ?_
        refine lv_topi (fun z3 ez3 => ?_)
        have h := nm_at ez3 h
        refine lv_istore_n (lv' := [(2, .int z3), (3, .int y3), (0, .ref aF), (1, .ref ar1)]) hx hb dX2_sum_17 rfl hl (by decide) rfl (fun ls hl => ?_)
        refine lv_iinc (v := y3 + 1) (lv' := [(3, .int (y3 + 1)), (2, .int z3), (0, .ref aF), (1, .ref ar1)]) hx hb dX2_sum_18 hl (k := 1) rfl rfl (by decide) rfl (fun ls hl => ?_)
        refine lv_goto (tgt := 4) hx hb dX2_sum_21 (by decide) ?_
        exact ih4 z3 (y3 + 1) _ _ _ hP hD hS (lv_sub hl [1, 0, 2, 3] rfl) h
  exact lp4 FU (0 : Int32) (0 : Int32) _ _ _ hP hD hS (lv_sub hl [1, 0, 2, 3] rfl) h
/-! ===== X2_spotsInUse ===== -/
def w_X2_spotsInUse (cyI cyJ cyZ cyB cyO : ClassId) (aF aF_spot aF_kind aF_above aF_edge aF_pool aF_store : Nat) (vF_basins : Int32) (vF_spring : Int32) (vF_hour : Int32) (vF_z : Int32) (cF_spot : Nat → Int32) : va_W := [(aF, .inr (2, [.ref aF_kind, .ref aF_above, .ref aF_edge, .ref aF_pool, .ref aF_store, .ref aF_spot, .int vF_basins, .int vF_spring, .int vF_hour, .int vF_z])), (aF_spot, .inl (cyI, 10, .inl cF_spot))]
set_option maxHeartbeats 4000000 in
set_option maxRecDepth 100000 in
theorem t_X2_spotsInUse (l : Launch) (D : va_G) (cyI cyJ cyZ cyB cyO : ClassId) (aF aF_spot aF_kind aF_above aF_edge aF_pool aF_store : Nat) (vF_basins : Int32) (vF_spring : Int32) (vF_hour : Int32) (vF_z : Int32) (cF_spot : Nat → Int32) (out : Int32) (h : f_X2_spotsInUse cF_spot = some out) : Mi l yX2_spotsInUse wsX2_spotsInUse ({ frames := 0, cells := 0, slots := 0, locals := 0 } : Room) D (tyA cyI cyJ cyZ cyB cyO) [.ref aF] (w_X2_spotsInUse cyI cyJ cyZ cyB cyO aF aF_spot aF_kind aF_above aF_edge aF_pool aF_store vF_basins vF_spring vF_hour vF_z cF_spot) (w_X2_spotsInUse cyI cyJ cyZ cyB cyO aF aF_spot aF_kind aF_above aF_edge aF_pool aF_store vF_basins vF_spring vF_hour vF_z cF_spot) out := by
  refine Mi.mk (cc := cX2_spotsInUse) (maxL := 3) (rt := .int) (own := RX2) (by decide) rfl rfl (Nat.le_of_ble_eq_true rfl) ?_
  intro p e s m args below meth c A Q F hK hP hD hA hret ls hl
  obtain ⟨hx, hb, hml, hown, hts⟩ := id F
  have hS : va_S A s.heap s.heap [] := va_S.rf
  have hl : lv_has ls 3 [(0, .ref aF)] := hl
  have in_X2 : ∀ w ∈ wsX20, w ∈ wsX2_spotsInUse := by decide +kernel
  have q1 := hts (Cond.fieldLink RX2 27 "ThirdFountain$Fountain" "spot" "[I") (List.mem_of_getElem? (i := 1) rfl)
  unfold f_X2_spotsInUse at h
  refine lv_iconst (v := 0) hx hb dX2_spotsInUse_0 (by decide) ?_
  refine lv_istore_n (lv' := [(1, .int (0 : Int32)), (0, .ref aF)]) hx hb dX2_spotsInUse_1 rfl hl (by decide) rfl (fun ls hl => ?_)
  refine lv_iconst (v := 0) hx hb dX2_spotsInUse_2 (by decide) ?_
  refine lv_istore_n (lv' := [(2, .int (0 : Int32)), (1, .int (0 : Int32)), (0, .ref aF)]) hx hb dX2_spotsInUse_3 rfl hl (by decide) rfl (fun ls hl => ?_)
  have lp4 : ∀ (k4 : Nat) (y1 : Int32) (y2 : Int32) (H : Heap) (locs : List Loc) (ls : Array Slot), va_P D vwCl (w_X2_spotsInUse cyI cyJ cyZ cyB cyO aF aF_spot aF_kind aF_above aF_edge aF_pool aF_store vF_basins vF_spring vF_hour vF_z cF_spot) H → va_D A (w_X2_spotsInUse cyI cyJ cyZ cyB cyO aF aF_spot aF_kind aF_above aF_edge aF_pool aF_store vF_basins vF_spring vF_hour vF_z cF_spot) → va_S A s.heap H locs → lv_has ls 3 [(1, .int y1), (2, .int y2), (0, .ref aF)] → (f_X2_spotsInUse_L4 cF_spot k4) (y1, y2) = some out → W p l e ({ frames := 0, cells := 0, slots := 0, locals := 0 } : Room) s m args below meth c H locs 0 0 Q (F0 m 4 ls []) := by
    intro k4
    induction k4 with
    | zero => intro y1 y2 H locs ls hP hD hS hl h; cases h
    | succ k4 ih4 =>
      intro y1 y2 H locs ls hP hD hS hl h
      have h : f_X2_spotsInUse_L4_b cF_spot (f_X2_spotsInUse_L4 cF_spot k4) y1 y2 = some out := h
      unfold f_X2_spotsInUse_L4_b at h
      refine lv_iload_n hx hb dX2_spotsInUse_4 rfl (lv_at hl 1 rfl) ?_
      refine lv_bipush (v := 10) hx hb dX2_spotsInUse_5 (by decide) ?_
      refine lv_icmp_ge (tgt := 29) hx hb dX2_spotsInUse_7 (by decide) (fun c1 => ?_) (fun c1 => ?_)
      · have h := br_pos c1 h
        refine lv_iload_n hx hb dX2_spotsInUse_29 rfl (lv_at hl 0 rfl) ?_
        obtain rfl := Option.some.inj h
        exact hret _ _ _ _ _ hP hD hS dX2_spotsInUse_30 rfl rfl
      · have h := br_neg c1 h
        refine lv_aload_n hx hb dX2_spotsInUse_10 rfl (lv_at hl 2 rfl) ?_
        refine va_get (D := D) (ci := 2) (v := .ref aF_spot) (C := RX2) (T := TX2) (N := 10) hx hb hts in_X2 hown hK hP 0 rfl rfl 5 (by decide) q1 (fun _ h9 => h9) rfl dX2_spotsInUse_11 ?_
        refine lv_iload_n hx hb dX2_spotsInUse_14 rfl (lv_at hl 1 rfl) ?_
        obtain ⟨g2, h⟩ := gd_some h
        refine va_iald hx hb hK hP 1 0 rfl rfl g2 dX2_spotsInUse_15 ?_
        refine lv_iconst (v := -1) hx hb dX2_spotsInUse_16 (by decide) ?_
        refine lv_icmp_eq (tgt := 23) hx hb dX2_spotsInUse_17 (by decide) (fun c3 => ?_) (fun c3 => ?_)
        · have h := br_pos c3 h
          refine lv_iinc (v := y2 + 1) (lv' := [(2, .int (y2 + 1)), (1, .int y1), (0, .ref aF)]) hx hb dX2_spotsInUse_23 hl (k := 1) rfl rfl (by decide) rfl (fun ls hl => ?_)
          refine lv_goto (tgt := 4) hx hb dX2_spotsInUse_26 (by decide) ?_
          exact ih4 y1 (y2 + 1) _ _ _ hP hD hS (lv_sub hl [1, 0, 2] rfl) h
        · have h := br_neg c3 h
          refine lv_iinc (v := y1 + 1) (lv' := [(1, .int (y1 + 1)), (2, .int y2), (0, .ref aF)]) hx hb dX2_spotsInUse_20 hl (k := 0) rfl rfl (by decide) rfl (fun ls hl => ?_)
          refine lv_iinc (v := y2 + 1) (lv' := [(2, .int (y2 + 1)), (1, .int (y1 + 1)), (0, .ref aF)]) hx hb dX2_spotsInUse_23 hl (k := 1) rfl rfl (by decide) rfl (fun ls hl => ?_)
          refine lv_goto (tgt := 4) hx hb dX2_spotsInUse_26 (by decide) ?_
          exact ih4 (y1 + 1) (y2 + 1) _ _ _ hP hD hS (lv_sub hl [1, 0, 2] rfl) h
  exact lp4 FU (0 : Int32) (0 : Int32) _ _ _ hP hD hS (lv_sub hl [1, 0, 2] rfl) h
/-! ===== X2_draw ===== -/
def w_X2_draw (cyI cyJ cyZ cyB cyO : ClassId) (aF aF_kind aF_above aF_edge aF_pool aF_store aF_spot : Nat) (vF_basins : Int32) (vF_spring : Int32) (vF_hour : Int32) (vF_z : Int32) : va_W := [(aF, .inr (2, [.ref aF_kind, .ref aF_above, .ref aF_edge, .ref aF_pool, .ref aF_store, .ref aF_spot, .int vF_basins, .int vF_spring, .int vF_hour, .int vF_z]))]
set_option maxHeartbeats 4000000 in
set_option maxRecDepth 100000 in
theorem t_X2_draw (l : Launch) (D : va_G) (cyI cyJ cyZ cyB cyO : ClassId) (aF aF_kind aF_above aF_edge aF_pool aF_store aF_spot : Nat) (vF_basins : Int32) (vF_spring : Int32) (vF_hour : Int32) (vF_z : Int32) (out : Int32 × Int32) (h : f_X2_draw vF_z = some out) : Mi l yX2_draw wsX2_draw ({ frames := 0, cells := 0, slots := 0, locals := 0 } : Room) D (tyA cyI cyJ cyZ cyB cyO) [.ref aF] (w_X2_draw cyI cyJ cyZ cyB cyO aF aF_kind aF_above aF_edge aF_pool aF_store aF_spot vF_basins vF_spring vF_hour vF_z) (w_X2_draw cyI cyJ cyZ cyB cyO aF aF_kind aF_above aF_edge aF_pool aF_store aF_spot vF_basins vF_spring vF_hour out.2) out.1 := by
  refine Mi.mk (cc := cX2_draw) (maxL := 1) (rt := .int) (own := RX2) (by decide) rfl rfl (Nat.le_of_ble_eq_true rfl) ?_
  intro p e s m args below meth c A Q F hK hP hD hA hret ls hl
  obtain ⟨hx, hb, hml, hown, hts⟩ := id F
  have hS : va_S A s.heap s.heap [] := va_S.rf
  have hl : lv_has ls 1 [(0, .ref aF)] := hl
  have in_X2 : ∀ w ∈ wsX20, w ∈ wsX2_draw := by decide +kernel
  have q1 := hts (Cond.fieldLink RX2 34 "ThirdFountain$Fountain" "z" "I") (List.mem_of_getElem? (i := 1) rfl)
  have q2 := hts (Cond.constant RX2 49 (1103515245)) (List.mem_of_getElem? (i := 2) rfl)
  unfold f_X2_draw at h
  refine lv_aload_n hx hb dX2_draw_0 rfl (lv_at hl 0 rfl) ?_
  refine lv_aload_n hx hb dX2_draw_1 rfl (lv_at hl 0 rfl) ?_
  refine va_get (D := D) (ci := 2) (v := .int vF_z) (C := RX2) (T := TX2) (N := 10) hx hb hts in_X2 hown hK hP 0 rfl rfl 9 (by decide) q1 (fun _ h9 => h9) rfl dX2_draw_2 ?_
  refine lv_ldc (v := 1103515245) hx hb hown q2 dX2_draw_5 ?_
  refine lv_imul hx hb dX2_draw_7 ?_
  refine lv_sipush (v := 12345) hx hb dX2_draw_8 (by decide) ?_
  refine lv_iadd hx hb dX2_draw_11 ?_
  refine va_put (D := D) (ci := 2) (v := .int ((vF_z * (1103515245 : Int32)) + (12345 : Int32))) (ty := .int) (C := RX2) (T := TX2) (N := 10) hx hb hts in_X2 tyX2 tyX2_ok nmX2 hown hK hP hD hS 0 rfl rfl 9 (by decide) q1 (fun _ h9 => h9) rfl (by decide +kernel) rfl rfl (Nat.le_of_ble_eq_true rfl) dX2_draw_12 (fun H locs hP hD hS => ?_)
  have hP : va_P D vwCl (w_X2_draw cyI cyJ cyZ cyB cyO aF aF_kind aF_above aF_edge aF_pool aF_store aF_spot vF_basins vF_spring vF_hour ((vF_z * (1103515245 : Int32)) + (12345 : Int32))) H := hP
  have hD : va_D A (w_X2_draw cyI cyJ cyZ cyB cyO aF aF_kind aF_above aF_edge aF_pool aF_store aF_spot vF_basins vF_spring vF_hour ((vF_z * (1103515245 : Int32)) + (12345 : Int32))) := hD
  refine lv_aload_n hx hb dX2_draw_15 rfl (lv_at hl 0 rfl) ?_
  refine va_get (D := D) (ci := 2) (v := .int ((vF_z * (1103515245 : Int32)) + (12345 : Int32))) (C := RX2) (T := TX2) (N := 10) hx hb hts in_X2 hown hK hP 0 rfl rfl 9 (by decide) q1 (fun _ h9 => h9) rfl dX2_draw_16 ?_
  refine lv_bipush (v := 8) hx hb dX2_draw_19 (by decide) ?_
  refine lv_iushr hx hb dX2_draw_21 rfl ?_
  obtain rfl := Option.some.inj h
  exact hret _ _ _ _ _ hP hD hS dX2_draw_22 rfl rfl
/-! ===== X3_isKind ===== -/
def w_X3_isKind (cyI cyJ cyZ cyB cyO : ClassId) : va_W := []
set_option maxHeartbeats 4000000 in
set_option maxRecDepth 100000 in
theorem t_X3_isKind (l : Launch) (D : va_G) (cyI cyJ cyZ cyB cyO : ClassId) (x0 : Int32) (out : Int32) (h : f_X3_isKind x0 = some out) : Mi l yX3_isKind wsX3_isKind ({ frames := 0, cells := 0, slots := 0, locals := 0 } : Room) D (tyA cyI cyJ cyZ cyB cyO) [.int x0] (w_X3_isKind cyI cyJ cyZ cyB cyO ) (w_X3_isKind cyI cyJ cyZ cyB cyO ) out := by
  refine Mi.mk (cc := cX3_isKind) (maxL := 1) (rt := .boolean) (own := RX3) (by decide) rfl rfl (Nat.le_of_ble_eq_true rfl) ?_
  intro p e s m args below meth c A Q F hK hP hD hA hret ls hl
  obtain ⟨hx, hb, hml, hown, hts⟩ := id F
  have hS : va_S A s.heap s.heap [] := va_S.rf
  have hl : lv_has ls 1 [(0, .int x0)] := hl
  unfold f_X3_isKind at h
  refine lv_iload_n hx hb dX3_isKind_0 rfl (lv_at hl 0 rfl) ?_
  refine lv_if_lt (tgt := 14) hx hb dX3_isKind_1 (by decide) (fun c1 => ?_) (fun c1 => ?_)
  · have h := br_pos c1 h
    refine lv_iconst (v := 0) hx hb dX3_isKind_14 (by decide) ?_
    obtain rfl := Option.some.inj h
    exact hret _ _ _ _ _ hP hD hS dX3_isKind_15 (nz_of (Or.inl rfl)) rfl
  · have h := br_neg c1 h
    refine lv_iload_n hx hb dX3_isKind_4 rfl (lv_at hl 0 rfl) ?_
    refine lv_bipush (v := 6) hx hb dX3_isKind_5 (by decide) ?_
    refine lv_icmp_gt (tgt := 14) hx hb dX3_isKind_7 (by decide) (fun c2 => ?_) (fun c2 => ?_)
    · have h := br_pos c2 h
      refine lv_iconst (v := 0) hx hb dX3_isKind_14 (by decide) ?_
      obtain rfl := Option.some.inj h
      exact hret _ _ _ _ _ hP hD hS dX3_isKind_15 (nz_of (Or.inl rfl)) rfl
    · have h := br_neg c2 h
      refine lv_iconst (v := 1) hx hb dX3_isKind_10 (by decide) ?_
      refine lv_goto (tgt := 15) hx hb dX3_isKind_11 (by decide) ?_
      obtain rfl := Option.some.inj h
      exact hret _ _ _ _ _ hP hD hS dX3_isKind_15 (nz_of (Or.inr rfl)) rfl
/-! ===== X4_commonDivisor ===== -/
def w_X4_commonDivisor (cyI cyJ cyZ cyB cyO : ClassId) : va_W := []
set_option maxHeartbeats 4000000 in
set_option maxRecDepth 100000 in
theorem t_X4_commonDivisor (l : Launch) (D : va_G) (cyI cyJ cyZ cyB cyO : ClassId) (x0 : Int64) (x2 : Int64) (out : Int64) (h : f_X4_commonDivisor x0 x2 = some out) : Ml l yX4_commonDivisor wsX4_commonDivisor ({ frames := 0, cells := 0, slots := 0, locals := 0 } : Room) D (tyA cyI cyJ cyZ cyB cyO) [.long x0, .long x2] (w_X4_commonDivisor cyI cyJ cyZ cyB cyO ) (w_X4_commonDivisor cyI cyJ cyZ cyB cyO ) out := by
  refine Ml.mk (cc := cX4_commonDivisor) (maxL := 11) (own := RX4) (by decide) rfl rfl (Nat.le_of_ble_eq_true rfl) ?_
  intro p e s m args below meth c A Q F hK hP hD hA hret ls hl
  obtain ⟨hx, hb, hml, hown, hts⟩ := id F
  have hS : va_S A s.heap s.heap [] := va_S.rf
  have hl : lv_has ls 11 [(0, .long x0), (2, .long x2)] := hl
  unfold f_X4_commonDivisor at h
  refine lv_lload_n hx hb dX4_commonDivisor_0 rfl (lv_at hl 0 rfl) ?_
  refine lv_lstore (lv' := [(4, .long x0), (0, .long x0), (2, .long x2)]) hx hb dX4_commonDivisor_1 hl (by decide) rfl (fun ls hl => ?_)
  refine lv_lload_n hx hb dX4_commonDivisor_3 rfl (lv_at hl 2 rfl) ?_
  refine lv_lstore (lv' := [(6, .long x2), (4, .long x0), (0, .long x0), (2, .long x2)]) hx hb dX4_commonDivisor_4 hl (by decide) rfl (fun ls hl => ?_)
  refine lv_iconst (v := 0) hx hb dX4_commonDivisor_6 (by decide) ?_
  refine lv_istore (lv' := [(8, .int (0 : Int32)), (6, .long x2), (4, .long x0), (0, .long x0), (2, .long x2)]) hx hb dX4_commonDivisor_7 hl (by decide) rfl (fun ls hl => ?_)
  have lp9 : ∀ (k9 : Nat) (y4 : Int64) (y6 : Int64) (y8 : Int32) (H : Heap) (locs : List Loc) (ls : Array Slot), va_P D vwCl (w_X4_commonDivisor cyI cyJ cyZ cyB cyO ) H → va_D A (w_X4_commonDivisor cyI cyJ cyZ cyB cyO ) → va_S A s.heap H locs → lv_has ls 11 [(4, .long y4), (6, .long y6), (8, .int y8)] → (f_X4_commonDivisor_L9 x0 x2 k9) (y4, y6, y8) = some out → W p l e ({ frames := 0, cells := 0, slots := 0, locals := 0 } : Room) s m args below meth c H locs 0 0 Q (F0 m 9 ls []) := by
    intro k9
    induction k9 with
    | zero => intro y4 y6 y8 H locs ls hP hD hS hl h; cases h
    | succ k9 ih9 =>
      intro y4 y6 y8 H locs ls hP hD hS hl h
      have h : f_X4_commonDivisor_L9_b x0 x2 (f_X4_commonDivisor_L9 x0 x2 k9) y4 y6 y8 = some out := h
      unfold f_X4_commonDivisor_L9_b at h
      refine lv_iload hx hb dX4_commonDivisor_9 (lv_at hl 2 rfl) ?_
      refine lv_sipush (v := 200) hx hb dX4_commonDivisor_11 (by decide) ?_
      refine lv_icmp_ge (tgt := 45) hx hb dX4_commonDivisor_14 (by decide) (fun c1 => ?_) (fun c1 => ?_)
      · have h := br_pos c1 h
        refine lv_lload hx hb dX4_commonDivisor_45 (lv_at hl 0 rfl) ?_
        obtain rfl := Option.some.inj h
        exact hret _ _ _ _ _ hP hD hS dX4_commonDivisor_47 rfl
      · have h := br_neg c1 h
        refine lv_lload hx hb dX4_commonDivisor_17 (lv_at hl 1 rfl) ?_
        refine lv_lconst (v := 0) hx hb dX4_commonDivisor_19 (by decide) ?_
        refine W.lcmp hx hb dX4_commonDivisor_20 ?_
        refine lv_if_eq (tgt := 45) hx hb dX4_commonDivisor_21 (by decide) (fun c2 => ?_) (fun c2 => ?_)
        · have h := br_pos c2 h
          refine lv_lload hx hb dX4_commonDivisor_45 (lv_at hl 0 rfl) ?_
          obtain rfl := Option.some.inj h
          exact hret _ _ _ _ _ hP hD hS dX4_commonDivisor_47 rfl
        · have h := br_neg c2 h
          refine lv_lload hx hb dX4_commonDivisor_24 (lv_at hl 0 rfl) ?_
          refine lv_lload hx hb dX4_commonDivisor_26 (lv_at hl 1 rfl) ?_
          obtain ⟨g3, h⟩ := gd_some h
          refine lv_lrem hx hb dX4_commonDivisor_28 g3 ?_
          refine lv_topl (fun z4 ez4 => ?_)
          have h := nm_at ez4 h
          refine lv_lstore (lv' := [(9, .long z4), (4, .long y4), (6, .long y6), (8, .int y8)]) hx hb dX4_commonDivisor_29 hl (by decide) rfl (fun ls hl => ?_)
          refine lv_lload hx hb dX4_commonDivisor_31 (lv_at hl 2 rfl) ?_
          refine lv_lstore (lv' := [(4, .long y6), (9, .long z4), (6, .long y6), (8, .int y8)]) hx hb dX4_commonDivisor_33 hl (by decide) rfl (fun ls hl => ?_)
          refine lv_lload hx hb dX4_commonDivisor_35 (lv_at hl 1 rfl) ?_
          refine lv_lstore (lv' := [(6, .long z4), (4, .long y6), (9, .long z4), (8, .int y8)]) hx hb dX4_commonDivisor_37 hl (by decide) rfl (fun ls hl => ?_)
          refine lv_iinc (v := y8 + 1) (lv' := [(8, .int (y8 + 1)), (6, .long z4), (4, .long y6), (9, .long z4)]) hx hb dX4_commonDivisor_39 hl (k := 3) rfl rfl (by decide) rfl (fun ls hl => ?_)
          refine lv_goto (tgt := 9) hx hb dX4_commonDivisor_42 (by decide) ?_
          exact ih9 y6 z4 (y8 + 1) _ _ _ hP hD hS (lv_sub hl [2, 1, 0] rfl) h
  exact lp9 FU x0 x2 (0 : Int32) _ _ _ hP hD hS (lv_sub hl [2, 1, 0] rfl) h
/-! ===== X4_multiply ===== -/
def w_X4_multiply (cyI cyJ cyZ cyB cyO : ClassId) (aS aS_keptTop aS_keptBottom aS_keptFits aS_onTop aS_onBottom aS_onFits : Nat) (vS_top : Int64) (vS_bottom : Int64) : va_W := [(aS, .inr (3, [.ref aS_keptTop, .ref aS_keptBottom, .ref aS_keptFits, .ref aS_onTop, .ref aS_onBottom, .ref aS_onFits, .long vS_top, .long vS_bottom]))]
set_option maxHeartbeats 4000000 in
set_option maxRecDepth 100000 in
theorem t_X4_multiply (l : Launch) (D : va_G) (cyI cyJ cyZ cyB cyO : ClassId) (aS aS_keptTop aS_keptBottom aS_keptFits aS_onTop aS_onBottom aS_onFits : Nat) (vS_top : Int64) (vS_bottom : Int64) (x1 : Int32) (x2 : Int32) (out : Int32 × Int64 × Int64) (h : f_X4_multiply x1 x2 vS_top vS_bottom = some out) : Mi l yX4_multiply wsX4_multiply ({ frames := 1, cells := 0, slots := 0, locals := 30 } : Room) D (tyA cyI cyJ cyZ cyB cyO) [.ref aS, .int x1, .int x2] (w_X4_multiply cyI cyJ cyZ cyB cyO aS aS_keptTop aS_keptBottom aS_keptFits aS_onTop aS_onBottom aS_onFits vS_top vS_bottom) (w_X4_multiply cyI cyJ cyZ cyB cyO aS aS_keptTop aS_keptBottom aS_keptFits aS_onTop aS_onBottom aS_onFits out.2.1 out.2.2) out.1 := by
  refine Mi.mk (cc := cX4_multiply) (maxL := 5) (rt := .boolean) (own := RX4) (by decide) rfl rfl (Nat.le_of_ble_eq_true rfl) ?_
  intro p e s m args below meth c A Q F hK hP hD hA hret ls hl
  obtain ⟨hx, hb, hml, hown, hts⟩ := id F
  have hS : va_S A s.heap s.heap [] := va_S.rf
  have hl : lv_has ls 5 [(0, .ref aS), (1, .int x1), (2, .int x2)] := hl
  have in_X4 : ∀ w ∈ wsX40, w ∈ wsX4_multiply := by decide +kernel
  have q1 := hts (Cond.fieldLink RX4 31 "ThirdFountain$Shares" "top" "J") (List.mem_of_getElem? (i := 1) rfl)
  have q2 := hts (Cond.fieldLink RX4 35 "ThirdFountain$Shares" "bottom" "J") (List.mem_of_getElem? (i := 2) rfl)
  have q4 := hts (Cond.methodLink RX4 78 yX4_commonDivisor) (List.mem_of_getElem? (i := 4) rfl)
  have q3 := hts (Cond.constantLong RX4 82 (100000000000)) (List.mem_of_getElem? (i := 3) rfl)
  unfold f_X4_multiply at h
  refine lv_aload_n hx hb dX4_multiply_0 rfl (lv_at hl 0 rfl) ?_
  refine lv_dup hx hb dX4_multiply_1 rfl ?_
  refine va_get (D := D) (ci := 3) (v := .long vS_top) (C := RX4) (T := TX4) (N := 8) hx hb hts in_X4 hown hK hP 0 rfl rfl 6 (by decide) q1 (fun _ h9 => h9) rfl dX4_multiply_2 ?_
  refine lv_iload_n hx hb dX4_multiply_5 rfl (lv_at hl 1 rfl) ?_
  refine lv_i2l hx hb dX4_multiply_6 rfl ?_
  refine lv_lmul hx hb dX4_multiply_7 ?_
  refine va_put (D := D) (ci := 3) (v := .long (vS_top * x1.toInt64)) (ty := .long) (C := RX4) (T := TX4) (N := 8) hx hb hts in_X4 tyX4 tyX4_ok nmX4 hown hK hP hD hS 0 rfl rfl 6 (by decide) q1 (fun _ h9 => h9) rfl (by decide +kernel) rfl rfl (Nat.le_of_ble_eq_true rfl) dX4_multiply_8 (fun H locs hP hD hS => ?_)
  have hP : va_P D vwCl (w_X4_multiply cyI cyJ cyZ cyB cyO aS aS_keptTop aS_keptBottom aS_keptFits aS_onTop aS_onBottom aS_onFits (vS_top * x1.toInt64) vS_bottom) H := hP
  have hD : va_D A (w_X4_multiply cyI cyJ cyZ cyB cyO aS aS_keptTop aS_keptBottom aS_keptFits aS_onTop aS_onBottom aS_onFits (vS_top * x1.toInt64) vS_bottom) := hD
  refine lv_aload_n hx hb dX4_multiply_11 rfl (lv_at hl 0 rfl) ?_
  refine lv_dup hx hb dX4_multiply_12 rfl ?_
  refine va_get (D := D) (ci := 3) (v := .long vS_bottom) (C := RX4) (T := TX4) (N := 8) hx hb hts in_X4 hown hK hP 0 rfl rfl 7 (by decide) q2 (fun _ h9 => h9) rfl dX4_multiply_13 ?_
  refine lv_iload_n hx hb dX4_multiply_16 rfl (lv_at hl 2 rfl) ?_
  refine lv_i2l hx hb dX4_multiply_17 rfl ?_
  refine lv_lmul hx hb dX4_multiply_18 ?_
  refine va_put (D := D) (ci := 3) (v := .long (vS_bottom * x2.toInt64)) (ty := .long) (C := RX4) (T := TX4) (N := 8) hx hb hts in_X4 tyX4 tyX4_ok nmX4 hown hK hP hD hS 0 rfl rfl 7 (by decide) q2 (fun _ h9 => h9) rfl (by decide +kernel) rfl rfl (Nat.le_of_ble_eq_true rfl) dX4_multiply_19 (fun H locs hP hD hS => ?_)
  have hP : va_P D vwCl (w_X4_multiply cyI cyJ cyZ cyB cyO aS aS_keptTop aS_keptBottom aS_keptFits aS_onTop aS_onBottom aS_onFits (vS_top * x1.toInt64) (vS_bottom * x2.toInt64)) H := hP
  have hD : va_D A (w_X4_multiply cyI cyJ cyZ cyB cyO aS aS_keptTop aS_keptBottom aS_keptFits aS_onTop aS_onBottom aS_onFits (vS_top * x1.toInt64) (vS_bottom * x2.toInt64)) := hD
  refine lv_aload_n hx hb dX4_multiply_22 rfl (lv_at hl 0 rfl) ?_
  refine va_get (D := D) (ci := 3) (v := .long (vS_top * x1.toInt64)) (C := RX4) (T := TX4) (N := 8) hx hb hts in_X4 hown hK hP 0 rfl rfl 6 (by decide) q1 (fun _ h9 => h9) rfl dX4_multiply_23 ?_
  refine lv_aload_n hx hb dX4_multiply_26 rfl (lv_at hl 0 rfl) ?_
  refine va_get (D := D) (ci := 3) (v := .long (vS_bottom * x2.toInt64)) (C := RX4) (T := TX4) (N := 8) hx hb hts in_X4 hown hK hP 0 rfl rfl 7 (by decide) q2 (fun _ h9 => h9) rfl dX4_multiply_27 ?_
  obtain ⟨u1, hu1, h⟩ := bd_some h
  refine cl_Sl (rest := []) F hK hP hD hS hA hl (t_X4_commonDivisor l D cyI cyJ cyZ cyB cyO (vS_top * x1.toInt64) (vS_bottom * x2.toInt64) u1 hu1) (va_cwS 2 hts gX4_multiply_X4_commonDivisor rfl rfl rfl (by decide +kernel) ⟨Nat.le_of_ble_eq_true rfl, Nat.le_of_ble_eq_true rfl⟩) [] [0] [] (w_X4_multiply cyI cyJ cyZ cyB cyO aS aS_keptTop aS_keptBottom aS_keptFits aS_onTop aS_onBottom aS_onFits (vS_top * x1.toInt64) (vS_bottom * x2.toInt64)) rfl rfl rfl (by decide +kernel) rfl rfl (Nat.le_of_ble_eq_true rfl) ⟨Nat.zero_le _, Nat.zero_le _⟩ dX4_multiply_30 (fun H locs hP hD hS => ?_)
  refine lv_lstore_n (lv' := [(3, .long u1), (0, .ref aS), (1, .int x1), (2, .int x2)]) hx hb dX4_multiply_33 rfl hl (by decide) rfl (fun ls hl => ?_)
  refine lv_lload_n hx hb dX4_multiply_34 rfl (lv_at hl 0 rfl) ?_
  refine lv_lconst (v := 0) hx hb dX4_multiply_35 (by decide) ?_
  refine W.lcmp hx hb dX4_multiply_36 ?_
  have j60 : ∀ (vS_top : Int64) (vS_bottom : Int64) (H : Heap) (locs : List Loc) (ls : Array Slot), va_P D vwCl (w_X4_multiply cyI cyJ cyZ cyB cyO aS aS_keptTop aS_keptBottom aS_keptFits aS_onTop aS_onBottom aS_onFits vS_top vS_bottom) H → va_D A (w_X4_multiply cyI cyJ cyZ cyB cyO aS aS_keptTop aS_keptBottom aS_keptFits aS_onTop aS_onBottom aS_onFits vS_top vS_bottom) → va_S A s.heap H locs → lv_has ls 5 [(0, .ref aS)] → f_X4_multiply_J60 x1 x2 vS_top vS_bottom = some out → W p l e ({ frames := 1, cells := 0, slots := 0, locals := 30 } : Room) s m args below meth c H locs 0 0 Q (F0 m 60 ls []) := by
    intro vS_top vS_bottom H locs ls hP hD hS hl h
    unfold f_X4_multiply_J60 at h
    refine lv_aload_n hx hb dX4_multiply_60 rfl (lv_at hl 0 rfl) ?_
    refine va_get (D := D) (ci := 3) (v := .long vS_top) (C := RX4) (T := TX4) (N := 8) hx hb hts in_X4 hown hK hP 0 rfl rfl 6 (by decide) q1 (fun _ h9 => h9) rfl dX4_multiply_61 ?_
    refine lv_ldc2 (v := 100000000000) hx hb hown q3 dX4_multiply_64 ?_
    refine W.lcmp hx hb dX4_multiply_67 ?_
    refine lv_if_gt (tgt := 86) hx hb dX4_multiply_68 (by decide) (fun c2 => ?_) (fun c2 => ?_)
    · have h := br_pos c2 h
      refine lv_iconst (v := 0) hx hb dX4_multiply_86 (by decide) ?_
      obtain rfl := Option.some.inj h
      exact hret _ _ _ _ _ hP hD hS dX4_multiply_87 (nz_of (Or.inl rfl)) rfl
    · have h := br_neg c2 h
      refine lv_aload_n hx hb dX4_multiply_71 rfl (lv_at hl 0 rfl) ?_
      refine va_get (D := D) (ci := 3) (v := .long vS_bottom) (C := RX4) (T := TX4) (N := 8) hx hb hts in_X4 hown hK hP 0 rfl rfl 7 (by decide) q2 (fun _ h9 => h9) rfl dX4_multiply_72 ?_
      refine lv_ldc2 (v := 100000000000) hx hb hown q3 dX4_multiply_75 ?_
      refine W.lcmp hx hb dX4_multiply_78 ?_
      refine lv_if_gt (tgt := 86) hx hb dX4_multiply_79 (by decide) (fun c3 => ?_) (fun c3 => ?_)
      · have h := br_pos c3 h
        refine lv_iconst (v := 0) hx hb dX4_multiply_86 (by decide) ?_
        obtain rfl := Option.some.inj h
        exact hret _ _ _ _ _ hP hD hS dX4_multiply_87 (nz_of (Or.inl rfl)) rfl
      · have h := br_neg c3 h
        refine lv_iconst (v := 1) hx hb dX4_multiply_82 (by decide) ?_
        refine lv_goto (tgt := 87) hx hb dX4_multiply_83 (by decide) ?_
        obtain rfl := Option.some.inj h
        exact hret _ _ _ _ _ hP hD hS dX4_multiply_87 (nz_of (Or.inr rfl)) rfl
  refine lv_if_le (tgt := 60) hx hb dX4_multiply_37 (by decide) (fun c4 => ?_) (fun c4 => ?_)
  · have h := br_pos c4 h
    exact j60 (vS_top * x1.toInt64) (vS_bottom * x2.toInt64) _ _ _ hP hD hS (lv_sub hl [1] rfl) h
  · have h := br_neg c4 h
    refine lv_aload_n hx hb dX4_multiply_40 rfl (lv_at hl 1 rfl) ?_
    refine lv_dup hx hb dX4_multiply_41 rfl ?_
    refine va_get (D := D) (ci := 3) (v := .long (vS_top * x1.toInt64)) (C := RX4) (T := TX4) (N := 8) hx hb hts in_X4 hown hK hP 0 rfl rfl 6 (by decide) q1 (fun _ h9 => h9) rfl dX4_multiply_42 ?_
    refine lv_lload_n hx hb dX4_multiply_45 rfl (lv_at hl 0 rfl) ?_
    obtain ⟨g5, h⟩ := gd_some h
    refine lv_ldiv hx hb dX4_multiply_46 g5 ?_
    refine va_put (D := D) (ci := 3) (v := .long ((vS_top * x1.toInt64) / u1)) (ty := .long) (C := RX4) (T := TX4) (N := 8) hx hb hts in_X4 tyX4 tyX4_ok nmX4 hown hK hP hD hS 0 rfl rfl 6 (by decide) q1 (fun _ h9 => h9) rfl (by decide +kernel) rfl rfl (Nat.le_of_ble_eq_true rfl) dX4_multiply_47 (fun H locs hP hD hS => ?_)
    have hP : va_P D vwCl (w_X4_multiply cyI cyJ cyZ cyB cyO aS aS_keptTop aS_keptBottom aS_keptFits aS_onTop aS_onBottom aS_onFits ((vS_top * x1.toInt64) / u1) (vS_bottom * x2.toInt64)) H := hP
    have hD : va_D A (w_X4_multiply cyI cyJ cyZ cyB cyO aS aS_keptTop aS_keptBottom aS_keptFits aS_onTop aS_onBottom aS_onFits ((vS_top * x1.toInt64) / u1) (vS_bottom * x2.toInt64)) := hD
    refine lv_aload_n hx hb dX4_multiply_50 rfl (lv_at hl 1 rfl) ?_
    refine lv_dup hx hb dX4_multiply_51 rfl ?_
    refine va_get (D := D) (ci := 3) (v := .long (vS_bottom * x2.toInt64)) (C := RX4) (T := TX4) (N := 8) hx hb hts in_X4 hown hK hP 0 rfl rfl 7 (by decide) q2 (fun _ h9 => h9) rfl dX4_multiply_52 ?_
    refine lv_lload_n hx hb dX4_multiply_55 rfl (lv_at hl 0 rfl) ?_
    obtain ⟨g6, h⟩ := gd_some h
    refine lv_ldiv hx hb dX4_multiply_56 g6 ?_
    refine va_put (D := D) (ci := 3) (v := .long ((vS_bottom * x2.toInt64) / u1)) (ty := .long) (C := RX4) (T := TX4) (N := 8) hx hb hts in_X4 tyX4 tyX4_ok nmX4 hown hK hP hD hS 0 rfl rfl 7 (by decide) q2 (fun _ h9 => h9) rfl (by decide +kernel) rfl rfl (Nat.le_of_ble_eq_true rfl) dX4_multiply_57 (fun H locs hP hD hS => ?_)
    have hP : va_P D vwCl (w_X4_multiply cyI cyJ cyZ cyB cyO aS aS_keptTop aS_keptBottom aS_keptFits aS_onTop aS_onBottom aS_onFits ((vS_top * x1.toInt64) / u1) ((vS_bottom * x2.toInt64) / u1)) H := hP
    have hD : va_D A (w_X4_multiply cyI cyJ cyZ cyB cyO aS aS_keptTop aS_keptBottom aS_keptFits aS_onTop aS_onBottom aS_onFits ((vS_top * x1.toInt64) / u1) ((vS_bottom * x2.toInt64) / u1)) := hD
    exact j60 ((vS_top * x1.toInt64) / u1) ((vS_bottom * x2.toInt64) / u1) _ _ _ hP hD hS (lv_sub hl [1] rfl) h
/-! ===== X4_comingTo ===== -/
def w_X4_comingTo (cyI cyJ cyZ cyB cyO : ClassId) (aF aF_above aS aS_onTop aS_onBottom aS_onFits aF_edge aF_kind aF_pool aF_store aF_spot aS_keptTop aS_keptBottom aS_keptFits : Nat) (vF_basins : Int32) (vF_spring : Int32) (vF_hour : Int32) (vF_z : Int32) (cF_above : Nat → Int32) (vS_top : Int64) (vS_bottom : Int64) (cS_onTop : Nat → Int64) (cS_onBottom : Nat → Int64) (cS_onFits : Nat → Int32) (cF_edge : Nat → Int32) : va_W := [(aF, .inr (2, [.ref aF_kind, .ref aF_above, .ref aF_edge, .ref aF_pool, .ref aF_store, .ref aF_spot, .int vF_basins, .int vF_spring, .int vF_hour, .int vF_z])), (aF_above, .inl (cyI, 10, .inl cF_above)), (aS, .inr (3, [.ref aS_keptTop, .ref aS_keptBottom, .ref aS_keptFits, .ref aS_onTop, .ref aS_onBottom, .ref aS_onFits, .long vS_top, .long vS_bottom])), (aS_onTop, .inl (cyJ, 10, .inr (.inl cS_onTop))), (aS_onBottom, .inl (cyJ, 10, .inr (.inl cS_onBottom))), (aS_onFits, .inl (cyZ, 10, .inl cS_onFits)), (aF_edge, .inl (cyI, 10, .inl cF_edge))]
set_option maxHeartbeats 4000000 in
set_option maxRecDepth 100000 in
theorem t_X4_comingTo (l : Launch) (D : va_G) (cyI cyJ cyZ cyB cyO : ClassId) (aF aF_above aS aS_onTop aS_onBottom aS_onFits aF_edge aF_kind aF_pool aF_store aF_spot aS_keptTop aS_keptBottom aS_keptFits : Nat) (vF_basins : Int32) (vF_spring : Int32) (vF_hour : Int32) (vF_z : Int32) (cF_above : Nat → Int32) (vS_top : Int64) (vS_bottom : Int64) (cS_onTop : Nat → Int64) (cS_onBottom : Nat → Int64) (cS_onFits : Nat → Int32) (cF_edge : Nat → Int32) (x2 : Int32) (out : Int32 × Int64 × Int64) (h : f_X4_comingTo x2 vF_basins cF_above vS_top vS_bottom cS_onTop cS_onBottom cS_onFits cF_edge = some out) : Mi l yX4_comingTo wsX4_comingTo ({ frames := 2, cells := 0, slots := 0, locals := 54 } : Room) D (tyA cyI cyJ cyZ cyB cyO) [.ref aS, .ref aF, .int x2] (w_X4_comingTo cyI cyJ cyZ cyB cyO aF aF_above aS aS_onTop aS_onBottom aS_onFits aF_edge aF_kind aF_pool aF_store aF_spot aS_keptTop aS_keptBottom aS_keptFits vF_basins vF_spring vF_hour vF_z cF_above vS_top vS_bottom cS_onTop cS_onBottom cS_onFits cF_edge) (w_X4_comingTo cyI cyJ cyZ cyB cyO aF aF_above aS aS_onTop aS_onBottom aS_onFits aF_edge aF_kind aF_pool aF_store aF_spot aS_keptTop aS_keptBottom aS_keptFits vF_basins vF_spring vF_hour vF_z cF_above out.2.1 out.2.2 cS_onTop cS_onBottom cS_onFits cF_edge) out.1 := by
  refine Mi.mk (cc := cX4_comingTo) (maxL := 4) (rt := .boolean) (own := RX4) (by decide) rfl rfl (Nat.le_of_ble_eq_true rfl) ?_
  intro p e s m args below meth c A Q F hK hP hD hA hret ls hl
  obtain ⟨hx, hb, hml, hown, hts⟩ := id F
  have hS : va_S A s.heap s.heap [] := va_S.rf
  have hl : lv_has ls 4 [(0, .ref aS), (1, .ref aF), (2, .int x2)] := hl
  have in_X2 : ∀ w ∈ wsX20, w ∈ wsX4_comingTo := by decide +kernel
  have in_X4 : ∀ w ∈ wsX40, w ∈ wsX4_comingTo := by decide +kernel
  have q1 := hts (Cond.fieldLink RX4 69 "ThirdFountain$Fountain" "above" "[I") (List.mem_of_getElem? (i := 1) rfl)
  have q2 := hts (Cond.fieldLink RX4 31 "ThirdFountain$Shares" "top" "J") (List.mem_of_getElem? (i := 2) rfl)
  have q3 := hts (Cond.fieldLink RX4 35 "ThirdFountain$Shares" "bottom" "J") (List.mem_of_getElem? (i := 3) rfl)
  have q4 := hts (Cond.fieldLink RX4 22 "ThirdFountain$Shares" "onTop" "[J") (List.mem_of_getElem? (i := 4) rfl)
  have q5 := hts (Cond.fieldLink RX4 25 "ThirdFountain$Shares" "onBottom" "[J") (List.mem_of_getElem? (i := 5) rfl)
  have q6 := hts (Cond.fieldLink RX4 28 "ThirdFountain$Shares" "onFits" "[Z") (List.mem_of_getElem? (i := 6) rfl)
  have q7 := hts (Cond.fieldLink RX4 72 "ThirdFountain$Fountain" "edge" "[I") (List.mem_of_getElem? (i := 7) rfl)
  have q8 := hts (Cond.methodLink RX4 75 yX2_widthUnder) (List.mem_of_getElem? (i := 8) rfl)
  have q16 := hts (Cond.methodLink RX4 58 yX4_multiply) (List.mem_of_getElem? (i := 16) rfl)
  unfold f_X4_comingTo at h
  refine lv_aload_n hx hb dX4_comingTo_0 rfl (lv_at hl 1 rfl) ?_
  refine va_get (D := D) (ci := 2) (v := .ref aF_above) (C := RX2) (T := TX2) (N := 10) hx hb hts in_X2 hown hK hP 0 rfl rfl 1 (by decide) q1 (fun _ h9 => h9) rfl dX4_comingTo_1 ?_
  refine lv_iload_n hx hb dX4_comingTo_4 rfl (lv_at hl 2 rfl) ?_
  obtain ⟨g1, h⟩ := gd_some h
  refine va_iald hx hb hK hP 1 0 rfl rfl g1 dX4_comingTo_5 ?_
  refine lv_topi (fun z2 ez2 => ?_)
  have h := nm_at ez2 h
  refine lv_istore_n (lv' := [(3, .int z2), (0, .ref aS), (1, .ref aF), (2, .int x2)]) hx hb dX4_comingTo_6 rfl hl (by decide) rfl (fun ls hl => ?_)
  refine lv_iload_n hx hb dX4_comingTo_7 rfl (lv_at hl 0 rfl) ?_
  have j16 : ∀ (vS_top : Int64) (vS_bottom : Int64) (H : Heap) (locs : List Loc) (ls : Array Slot), va_P D vwCl (w_X4_comingTo cyI cyJ cyZ cyB cyO aF aF_above aS aS_onTop aS_onBottom aS_onFits aF_edge aF_kind aF_pool aF_store aF_spot aS_keptTop aS_keptBottom aS_keptFits vF_basins vF_spring vF_hour vF_z cF_above vS_top vS_bottom cS_onTop cS_onBottom cS_onFits cF_edge) H → va_D A (w_X4_comingTo cyI cyJ cyZ cyB cyO aF aF_above aS aS_onTop aS_onBottom aS_onFits aF_edge aF_kind aF_pool aF_store aF_spot aS_keptTop aS_keptBottom aS_keptFits vF_basins vF_spring vF_hour vF_z cF_above vS_top vS_bottom cS_onTop cS_onBottom cS_onFits cF_edge) → va_S A s.heap H locs → lv_has ls 4 [(0, .ref aS)] → f_X4_comingTo_J16 x2 vF_basins cF_above cS_onTop cS_onBottom cS_onFits cF_edge vS_top vS_bottom = some out → W p l e ({ frames := 2, cells := 0, slots := 0, locals := 54 } : Room) s m args below meth c H locs 0 0 Q (F0 m 16 ls []) := by
    intro vS_top vS_bottom H locs ls hP hD hS hl h
    unfold f_X4_comingTo_J16 at h
    refine lv_aload_n hx hb dX4_comingTo_16 rfl (lv_at hl 0 rfl) ?_
    refine lv_lconst (v := 1) hx hb dX4_comingTo_17 (by decide) ?_
    refine va_put (D := D) (ci := 3) (v := .long (1 : Int64)) (ty := .long) (C := RX4) (T := TX4) (N := 8) hx hb hts in_X4 tyX4 tyX4_ok nmX4 hown hK hP hD hS 2 rfl rfl 6 (by decide) q2 (fun _ h9 => h9) rfl (by decide +kernel) rfl rfl (Nat.le_of_ble_eq_true rfl) dX4_comingTo_18 (fun H locs hP hD hS => ?_)
    have hP : va_P D vwCl (w_X4_comingTo cyI cyJ cyZ cyB cyO aF aF_above aS aS_onTop aS_onBottom aS_onFits aF_edge aF_kind aF_pool aF_store aF_spot aS_keptTop aS_keptBottom aS_keptFits vF_basins vF_spring vF_hour vF_z cF_above (1 : Int64) vS_bottom cS_onTop cS_onBottom cS_onFits cF_edge) H := hP
    have hD : va_D A (w_X4_comingTo cyI cyJ cyZ cyB cyO aF aF_above aS aS_onTop aS_onBottom aS_onFits aF_edge aF_kind aF_pool aF_store aF_spot aS_keptTop aS_keptBottom aS_keptFits vF_basins vF_spring vF_hour vF_z cF_above (1 : Int64) vS_bottom cS_onTop cS_onBottom cS_onFits cF_edge) := hD
    refine lv_aload_n hx hb dX4_comingTo_21 rfl (lv_at hl 0 rfl) ?_
    refine lv_lconst (v := 1) hx hb dX4_comingTo_22 (by decide) ?_
    refine va_put (D := D) (ci := 3) (v := .long (1 : Int64)) (ty := .long) (C := RX4) (T := TX4) (N := 8) hx hb hts in_X4 tyX4 tyX4_ok nmX4 hown hK hP hD hS 2 rfl rfl 7 (by decide) q3 (fun _ h9 => h9) rfl (by decide +kernel) rfl rfl (Nat.le_of_ble_eq_true rfl) dX4_comingTo_23 (fun H locs hP hD hS => ?_)
    have hP : va_P D vwCl (w_X4_comingTo cyI cyJ cyZ cyB cyO aF aF_above aS aS_onTop aS_onBottom aS_onFits aF_edge aF_kind aF_pool aF_store aF_spot aS_keptTop aS_keptBottom aS_keptFits vF_basins vF_spring vF_hour vF_z cF_above (1 : Int64) (1 : Int64) cS_onTop cS_onBottom cS_onFits cF_edge) H := hP
    have hD : va_D A (w_X4_comingTo cyI cyJ cyZ cyB cyO aF aF_above aS aS_onTop aS_onBottom aS_onFits aF_edge aF_kind aF_pool aF_store aF_spot aS_keptTop aS_keptBottom aS_keptFits vF_basins vF_spring vF_hour vF_z cF_above (1 : Int64) (1 : Int64) cS_onTop cS_onBottom cS_onFits cF_edge) := hD
    refine lv_iconst (v := 1) hx hb dX4_comingTo_26 (by decide) ?_
    obtain rfl := Option.some.inj h
    exact hret _ _ _ _ _ hP hD hS dX4_comingTo_27 (nz_of (Or.inr rfl)) rfl
  refine lv_if_lt (tgt := 16) hx hb dX4_comingTo_8 (by decide) (fun c3 => ?_) (fun c3 => ?_)
  · have h := br_pos c3 h
    exact j16 vS_top vS_bottom _ _ _ hP hD hS (lv_sub hl [1] rfl) h
  · have h := br_neg c3 h
    refine lv_iload_n hx hb dX4_comingTo_11 rfl (lv_at hl 0 rfl) ?_
    refine lv_iload_n hx hb dX4_comingTo_12 rfl (lv_at hl 3 rfl) ?_
    refine lv_icmp_lt (tgt := 28) hx hb dX4_comingTo_13 (by decide) (fun c4 => ?_) (fun c4 => ?_)
    · have h := br_pos c4 h
      refine lv_aload_n hx hb dX4_comingTo_28 rfl (lv_at hl 1 rfl) ?_
      refine lv_aload_n hx hb dX4_comingTo_29 rfl (lv_at hl 1 rfl) ?_
      refine va_get (D := D) (ci := 3) (v := .ref aS_onTop) (C := RX4) (T := TX4) (N := 8) hx hb hts in_X4 hown hK hP 2 rfl rfl 3 (by decide) q4 (fun _ h9 => h9) rfl dX4_comingTo_30 ?_
      refine lv_iload_n hx hb dX4_comingTo_33 rfl (lv_at hl 0 rfl) ?_
      obtain ⟨g5, h⟩ := gd_some h
      refine va_lald hx hb hK hP 3 1 rfl rfl g5 dX4_comingTo_34 ?_
      refine va_put (D := D) (ci := 3) (v := .long (cS_onTop z2.toNatClampNeg)) (ty := .long) (C := RX4) (T := TX4) (N := 8) hx hb hts in_X4 tyX4 tyX4_ok nmX4 hown hK hP hD hS 2 rfl rfl 6 (by decide) q2 (fun _ h9 => h9) rfl (by decide +kernel) rfl rfl (Nat.le_of_ble_eq_true rfl) dX4_comingTo_35 (fun H locs hP hD hS => ?_)
      have hP : va_P D vwCl (w_X4_comingTo cyI cyJ cyZ cyB cyO aF aF_above aS aS_onTop aS_onBottom aS_onFits aF_edge aF_kind aF_pool aF_store aF_spot aS_keptTop aS_keptBottom aS_keptFits vF_basins vF_spring vF_hour vF_z cF_above (cS_onTop z2.toNatClampNeg) vS_bottom cS_onTop cS_onBottom cS_onFits cF_edge) H := hP
      have hD : va_D A (w_X4_comingTo cyI cyJ cyZ cyB cyO aF aF_above aS aS_onTop aS_onBottom aS_onFits aF_edge aF_kind aF_pool aF_store aF_spot aS_keptTop aS_keptBottom aS_keptFits vF_basins vF_spring vF_hour vF_z cF_above (cS_onTop z2.toNatClampNeg) vS_bottom cS_onTop cS_onBottom cS_onFits cF_edge) := hD
      refine lv_aload_n hx hb dX4_comingTo_38 rfl (lv_at hl 1 rfl) ?_
      refine lv_aload_n hx hb dX4_comingTo_39 rfl (lv_at hl 1 rfl) ?_
      refine va_get (D := D) (ci := 3) (v := .ref aS_onBottom) (C := RX4) (T := TX4) (N := 8) hx hb hts in_X4 hown hK hP 2 rfl rfl 4 (by decide) q5 (fun _ h9 => h9) rfl dX4_comingTo_40 ?_
      refine lv_iload_n hx hb dX4_comingTo_43 rfl (lv_at hl 0 rfl) ?_
      obtain ⟨g6, h⟩ := gd_some h
      refine va_lald hx hb hK hP 4 1 rfl rfl g6 dX4_comingTo_44 ?_
      refine va_put (D := D) (ci := 3) (v := .long (cS_onBottom z2.toNatClampNeg)) (ty := .long) (C := RX4) (T := TX4) (N := 8) hx hb hts in_X4 tyX4 tyX4_ok nmX4 hown hK hP hD hS 2 rfl rfl 7 (by decide) q3 (fun _ h9 => h9) rfl (by decide +kernel) rfl rfl (Nat.le_of_ble_eq_true rfl) dX4_comingTo_45 (fun H locs hP hD hS => ?_)
      have hP : va_P D vwCl (w_X4_comingTo cyI cyJ cyZ cyB cyO aF aF_above aS aS_onTop aS_onBottom aS_onFits aF_edge aF_kind aF_pool aF_store aF_spot aS_keptTop aS_keptBottom aS_keptFits vF_basins vF_spring vF_hour vF_z cF_above (cS_onTop z2.toNatClampNeg) (cS_onBottom z2.toNatClampNeg) cS_onTop cS_onBottom cS_onFits cF_edge) H := hP
      have hD : va_D A (w_X4_comingTo cyI cyJ cyZ cyB cyO aF aF_above aS aS_onTop aS_onBottom aS_onFits aF_edge aF_kind aF_pool aF_store aF_spot aS_keptTop aS_keptBottom aS_keptFits vF_basins vF_spring vF_hour vF_z cF_above (cS_onTop z2.toNatClampNeg) (cS_onBottom z2.toNatClampNeg) cS_onTop cS_onBottom cS_onFits cF_edge) := hD
      refine lv_aload_n hx hb dX4_comingTo_48 rfl (lv_at hl 1 rfl) ?_
      refine va_get (D := D) (ci := 3) (v := .ref aS_onFits) (C := RX4) (T := TX4) (N := 8) hx hb hts in_X4 hown hK hP 2 rfl rfl 5 (by decide) q6 (fun _ h9 => h9) rfl dX4_comingTo_49 ?_
      refine lv_iload_n hx hb dX4_comingTo_52 rfl (lv_at hl 0 rfl) ?_
      obtain ⟨g7, h⟩ := gd_some h
      refine va_zald hx hb hK hP 5 2 rfl rfl g7 dX4_comingTo_53 ?_
      refine lv_if_eq (tgt := 79) hx hb dX4_comingTo_54 (by decide) (fun c8 => ?_) (fun c8 => ?_)
      · have h := br_pos c8 h
        refine lv_iconst (v := 0) hx hb dX4_comingTo_79 (by decide) ?_
        obtain rfl := Option.some.inj h
        exact hret _ _ _ _ _ hP hD hS dX4_comingTo_80 (nz_of (Or.inl rfl)) rfl
      · have h := br_neg c8 h
        refine lv_aload_n hx hb dX4_comingTo_57 rfl (lv_at hl 1 rfl) ?_
        refine lv_aload_n hx hb dX4_comingTo_58 rfl (lv_at hl 2 rfl) ?_
        refine va_get (D := D) (ci := 2) (v := .ref aF_edge) (C := RX2) (T := TX2) (N := 10) hx hb hts in_X2 hown hK hP 0 rfl rfl 2 (by decide) q7 (fun _ h9 => h9) rfl dX4_comingTo_59 ?_
        refine lv_iload_n hx hb dX4_comingTo_62 rfl (lv_at hl 3 rfl) ?_
        obtain ⟨g9, h⟩ := gd_some h
        refine va_iald hx hb hK hP 6 0 rfl rfl g9 dX4_comingTo_63 ?_
        refine lv_aload_n hx hb dX4_comingTo_64 rfl (lv_at hl 2 rfl) ?_
        refine lv_iload_n hx hb dX4_comingTo_65 rfl (lv_at hl 0 rfl) ?_
        obtain ⟨u10, hu10, h⟩ := bd_some h
        refine cl_Vi (rest := [.int (cF_edge x2.toNatClampNeg), .ref aS]) F hK hP hD hS hA hl (t_X2_widthUnder l D cyI cyJ cyZ cyB cyO aF aF_above aF_edge aF_kind aF_pool aF_store aF_spot vF_basins vF_spring vF_hour vF_z cF_above cF_edge z2 u10 hu10) (cwV 1 hts gX4_comingTo_X2_widthUnder rfl rfl rfl (by decide +kernel) ⟨Nat.le_of_ble_eq_true rfl, Nat.le_of_ble_eq_true rfl⟩) 0 [0, 1, 6] [1, 2, 0, 0, 0, 0, 3] [] (w_X4_comingTo cyI cyJ cyZ cyB cyO aF aF_above aS aS_onTop aS_onBottom aS_onFits aF_edge aF_kind aF_pool aF_store aF_spot aS_keptTop aS_keptBottom aS_keptFits vF_basins vF_spring vF_hour vF_z cF_above (cS_onTop z2.toNatClampNeg) (cS_onBottom z2.toNatClampNeg) cS_onTop cS_onBottom cS_onFits cF_edge) rfl rfl rfl rfl rfl (by decide +kernel) rfl rfl (Nat.le_of_ble_eq_true rfl) ⟨Nat.zero_le _, Nat.zero_le _⟩ dX4_comingTo_66 (fun H locs hP hD hS => ?_)
        obtain ⟨u11, hu11, h⟩ := bd_some h
        refine cl_Vi (rest := []) F hK hP hD hS hA hl (t_X4_multiply l D cyI cyJ cyZ cyB cyO aS aS_keptTop aS_keptBottom aS_keptFits aS_onTop aS_onBottom aS_onFits (cS_onTop z2.toNatClampNeg) (cS_onBottom z2.toNatClampNeg) (cF_edge x2.toNatClampNeg) u10 u11 hu11) (cwV 2 hts gX4_comingTo_X4_multiply rfl rfl rfl (by decide +kernel) ⟨Nat.le_of_ble_eq_true rfl, Nat.le_of_ble_eq_true rfl⟩) 2 [2] [0, 0, 1, 0, 0, 0, 0] [] (w_X4_comingTo cyI cyJ cyZ cyB cyO aF aF_above aS aS_onTop aS_onBottom aS_onFits aF_edge aF_kind aF_pool aF_store aF_spot aS_keptTop aS_keptBottom aS_keptFits vF_basins vF_spring vF_hour vF_z cF_above u11.2.1 u11.2.2 cS_onTop cS_onBottom cS_onFits cF_edge) rfl rfl rfl rfl rfl (by decide +kernel) rfl rfl (Nat.le_of_ble_eq_true rfl) ⟨Nat.zero_le _, Nat.zero_le _⟩ dX4_comingTo_69 (fun H locs hP hD hS => ?_)
        refine lv_if_eq (tgt := 79) hx hb dX4_comingTo_72 (by decide) (fun c12 => ?_) (fun c12 => ?_)
        · have h := br_pos c12 h
          refine lv_iconst (v := 0) hx hb dX4_comingTo_79 (by decide) ?_
          obtain rfl := Option.some.inj h
          exact hret _ _ _ _ _ hP hD hS dX4_comingTo_80 (nz_of (Or.inl rfl)) rfl
        · have h := br_neg c12 h
          refine lv_iconst (v := 1) hx hb dX4_comingTo_75 (by decide) ?_
          refine lv_goto (tgt := 80) hx hb dX4_comingTo_76 (by decide) ?_
          obtain rfl := Option.some.inj h
          exact hret _ _ _ _ _ hP hD hS dX4_comingTo_80 (nz_of (Or.inr rfl)) rfl
    · have h := br_neg c4 h
      exact j16 vS_top vS_bottom _ _ _ hP hD hS (lv_sub hl [1] rfl) h
/-! ===== X4_keep ===== -/
def w_X4_keep (cyI cyJ cyZ cyB cyO : ClassId) (aS aS_keptTop aS_keptBottom aS_keptFits aS_onTop aS_onBottom aS_onFits : Nat) (vS_top : Int64) (vS_bottom : Int64) : va_W := [(aS, .inr (3, [.ref aS_keptTop, .ref aS_keptBottom, .ref aS_keptFits, .ref aS_onTop, .ref aS_onBottom, .ref aS_onFits, .long vS_top, .long vS_bottom]))]
set_option maxHeartbeats 4000000 in
set_option maxRecDepth 100000 in
theorem t_X4_keep (l : Launch) (D : va_G) (cyI cyJ cyZ cyB cyO : ClassId) (aS aS_keptTop aS_keptBottom aS_keptFits aS_onTop aS_onBottom aS_onFits : Nat) (vS_top : Int64) (vS_bottom : Int64) (x1 : Int32) (out : Int32 × Int64 × Int64) (h : f_X4_keep x1 vS_top vS_bottom = some out) : Mi l yX4_keep wsX4_keep ({ frames := 2, cells := 0, slots := 0, locals := 54 } : Room) D (tyA cyI cyJ cyZ cyB cyO) [.ref aS, .int x1] (w_X4_keep cyI cyJ cyZ cyB cyO aS aS_keptTop aS_keptBottom aS_keptFits aS_onTop aS_onBottom aS_onFits vS_top vS_bottom) (w_X4_keep cyI cyJ cyZ cyB cyO aS aS_keptTop aS_keptBottom aS_keptFits aS_onTop aS_onBottom aS_onFits out.2.1 out.2.2) out.1 := by
  refine Mi.mk (cc := cX4_keep) (maxL := 2) (rt := .boolean) (own := RX4) (by decide) rfl rfl (Nat.le_of_ble_eq_true rfl) ?_
  intro p e s m args below meth c A Q F hK hP hD hA hret ls hl
  obtain ⟨hx, hb, hml, hown, hts⟩ := id F
  have hS : va_S A s.heap s.heap [] := va_S.rf
  have hl : lv_has ls 2 [(0, .ref aS), (1, .int x1)] := hl
  have q1 := hts (Cond.methodLink RX4 58 yX4_multiply) (List.mem_of_getElem? (i := 1) rfl)
  unfold f_X4_keep at h
  refine lv_iload_n hx hb dX4_keep_0 rfl (lv_at hl 1 rfl) ?_
  by_cases c1 : x1 = 1
  · have h := br_pos c1 h
    refine lv_lookup (off := 27) (tgt := 28) hx hb dX4_keep_1 (by decide) (by rw [c1]; rfl) (by decide) ?_
    refine lv_aload_n hx hb dX4_keep_28 rfl (lv_at hl 0 rfl) ?_
    refine lv_iconst (v := 2) hx hb dX4_keep_29 (by decide) ?_
    refine lv_iconst (v := 5) hx hb dX4_keep_30 (by decide) ?_
    obtain ⟨u3, hu3, h⟩ := bd_some h
    refine cl_Vi (rest := []) F hK hP hD hS hA hl (t_X4_multiply l D cyI cyJ cyZ cyB cyO aS aS_keptTop aS_keptBottom aS_keptFits aS_onTop aS_onBottom aS_onFits vS_top vS_bottom (2 : Int32) (5 : Int32) u3 hu3) (cwV 2 hts gX4_keep_X4_multiply rfl rfl rfl (by decide +kernel) ⟨Nat.le_of_ble_eq_true rfl, Nat.le_of_ble_eq_true rfl⟩) 0 [0] [1] [] (w_X4_keep cyI cyJ cyZ cyB cyO aS aS_keptTop aS_keptBottom aS_keptFits aS_onTop aS_onBottom aS_onFits u3.2.1 u3.2.2) rfl rfl rfl rfl rfl (by decide +kernel) rfl rfl (Nat.le_of_ble_eq_true rfl) ⟨Nat.zero_le _, Nat.zero_le _⟩ dX4_keep_31 (fun H locs hP hD hS => ?_)
    obtain ⟨g4, h⟩ := gd_some h
    obtain rfl := Option.some.inj h
    exact hret _ _ _ _ _ hP hD hS dX4_keep_34 (nz_of g4) rfl
  have h := br_neg c1 h
  by_cases c2 : x1 = 3
  · have h := br_pos c2 h
    refine lv_lookup (off := 34) (tgt := 35) hx hb dX4_keep_1 (by decide) (by rw [c2]; rfl) (by decide) ?_
    refine lv_aload_n hx hb dX4_keep_35 rfl (lv_at hl 0 rfl) ?_
    refine lv_iconst (v := 0) hx hb dX4_keep_36 (by decide) ?_
    refine lv_iconst (v := 1) hx hb dX4_keep_37 (by decide) ?_
    obtain ⟨u5, hu5, h⟩ := bd_some h
    refine cl_Vi (rest := []) F hK hP hD hS hA hl (t_X4_multiply l D cyI cyJ cyZ cyB cyO aS aS_keptTop aS_keptBottom aS_keptFits aS_onTop aS_onBottom aS_onFits vS_top vS_bottom (0 : Int32) (1 : Int32) u5 hu5) (cwV 2 hts gX4_keep_X4_multiply rfl rfl rfl (by decide +kernel) ⟨Nat.le_of_ble_eq_true rfl, Nat.le_of_ble_eq_true rfl⟩) 0 [0] [1] [] (w_X4_keep cyI cyJ cyZ cyB cyO aS aS_keptTop aS_keptBottom aS_keptFits aS_onTop aS_onBottom aS_onFits u5.2.1 u5.2.2) rfl rfl rfl rfl rfl (by decide +kernel) rfl rfl (Nat.le_of_ble_eq_true rfl) ⟨Nat.zero_le _, Nat.zero_le _⟩ dX4_keep_38 (fun H locs hP hD hS => ?_)
    obtain ⟨g6, h⟩ := gd_some h
    obtain rfl := Option.some.inj h
    exact hret _ _ _ _ _ hP hD hS dX4_keep_41 (nz_of g6) rfl
  have h := br_neg c2 h
  refine lv_lookup (off := 41) (tgt := 42) hx hb dX4_keep_1 (by decide) (lk_1 c1 (lk_1 c2 lk_0)) (by decide) ?_
  refine lv_aload_n hx hb dX4_keep_42 rfl (lv_at hl 0 rfl) ?_
  refine lv_iconst (v := 1) hx hb dX4_keep_43 (by decide) ?_
  refine lv_iconst (v := 3) hx hb dX4_keep_44 (by decide) ?_
  obtain ⟨u7, hu7, h⟩ := bd_some h
  refine cl_Vi (rest := []) F hK hP hD hS hA hl (t_X4_multiply l D cyI cyJ cyZ cyB cyO aS aS_keptTop aS_keptBottom aS_keptFits aS_onTop aS_onBottom aS_onFits vS_top vS_bottom (1 : Int32) (3 : Int32) u7 hu7) (cwV 2 hts gX4_keep_X4_multiply rfl rfl rfl (by decide +kernel) ⟨Nat.le_of_ble_eq_true rfl, Nat.le_of_ble_eq_true rfl⟩) 0 [0] [1] [] (w_X4_keep cyI cyJ cyZ cyB cyO aS aS_keptTop aS_keptBottom aS_keptFits aS_onTop aS_onBottom aS_onFits u7.2.1 u7.2.2) rfl rfl rfl rfl rfl (by decide +kernel) rfl rfl (Nat.le_of_ble_eq_true rfl) ⟨Nat.zero_le _, Nat.zero_le _⟩ dX4_keep_45 (fun H locs hP hD hS => ?_)
  obtain ⟨g8, h⟩ := gd_some h
  obtain rfl := Option.some.inj h
  exact hret _ _ _ _ _ hP hD hS dX4_keep_48 (nz_of g8) rfl
/-! ===== X4_goOn ===== -/
def w_X4_goOn (cyI cyJ cyZ cyB cyO : ClassId) (aS aS_keptTop aS_keptBottom aS_keptFits aS_onTop aS_onBottom aS_onFits : Nat) (vS_top : Int64) (vS_bottom : Int64) : va_W := [(aS, .inr (3, [.ref aS_keptTop, .ref aS_keptBottom, .ref aS_keptFits, .ref aS_onTop, .ref aS_onBottom, .ref aS_onFits, .long vS_top, .long vS_bottom]))]
set_option maxHeartbeats 4000000 in
set_option maxRecDepth 100000 in
theorem t_X4_goOn (l : Launch) (D : va_G) (cyI cyJ cyZ cyB cyO : ClassId) (aS aS_keptTop aS_keptBottom aS_keptFits aS_onTop aS_onBottom aS_onFits : Nat) (vS_top : Int64) (vS_bottom : Int64) (x1 : Int32) (out : Int32 × Int64 × Int64) (h : f_X4_goOn x1 vS_top vS_bottom = some out) : Mi l yX4_goOn wsX4_goOn ({ frames := 2, cells := 0, slots := 0, locals := 54 } : Room) D (tyA cyI cyJ cyZ cyB cyO) [.ref aS, .int x1] (w_X4_goOn cyI cyJ cyZ cyB cyO aS aS_keptTop aS_keptBottom aS_keptFits aS_onTop aS_onBottom aS_onFits vS_top vS_bottom) (w_X4_goOn cyI cyJ cyZ cyB cyO aS aS_keptTop aS_keptBottom aS_keptFits aS_onTop aS_onBottom aS_onFits out.2.1 out.2.2) out.1 := by
  refine Mi.mk (cc := cX4_goOn) (maxL := 2) (rt := .boolean) (own := RX4) (by decide) rfl rfl (Nat.le_of_ble_eq_true rfl) ?_
  intro p e s m args below meth c A Q F hK hP hD hA hret ls hl
  obtain ⟨hx, hb, hml, hown, hts⟩ := id F
  have hS : va_S A s.heap s.heap [] := va_S.rf
  have hl : lv_has ls 2 [(0, .ref aS), (1, .int x1)] := hl
  have q1 := hts (Cond.methodLink RX4 58 yX4_multiply) (List.mem_of_getElem? (i := 1) rfl)
  unfold f_X4_goOn at h
  refine lv_iload_n hx hb dX4_goOn_0 rfl (lv_at hl 1 rfl) ?_
  by_cases c1 : x1 = 1
  · have h := br_pos c1 h
    refine lv_lookup (off := 27) (tgt := 28) hx hb dX4_goOn_1 (by decide) (by rw [c1]; rfl) (by decide) ?_
    refine lv_aload_n hx hb dX4_goOn_28 rfl (lv_at hl 0 rfl) ?_
    refine lv_iconst (v := 3) hx hb dX4_goOn_29 (by decide) ?_
    refine lv_iconst (v := 5) hx hb dX4_goOn_30 (by decide) ?_
    obtain ⟨u3, hu3, h⟩ := bd_some h
    refine cl_Vi (rest := []) F hK hP hD hS hA hl (t_X4_multiply l D cyI cyJ cyZ cyB cyO aS aS_keptTop aS_keptBottom aS_keptFits aS_onTop aS_onBottom aS_onFits vS_top vS_bottom (3 : Int32) (5 : Int32) u3 hu3) (cwV 2 hts gX4_goOn_X4_multiply rfl rfl rfl (by decide +kernel) ⟨Nat.le_of_ble_eq_true rfl, Nat.le_of_ble_eq_true rfl⟩) 0 [0] [1] [] (w_X4_goOn cyI cyJ cyZ cyB cyO aS aS_keptTop aS_keptBottom aS_keptFits aS_onTop aS_onBottom aS_onFits u3.2.1 u3.2.2) rfl rfl rfl rfl rfl (by decide +kernel) rfl rfl (Nat.le_of_ble_eq_true rfl) ⟨Nat.zero_le _, Nat.zero_le _⟩ dX4_goOn_31 (fun H locs hP hD hS => ?_)
    obtain ⟨g4, h⟩ := gd_some h
    obtain rfl := Option.some.inj h
    exact hret _ _ _ _ _ hP hD hS dX4_goOn_34 (nz_of g4) rfl
  have h := br_neg c1 h
  by_cases c2 : x1 = 3
  · have h := br_pos c2 h
    refine lv_lookup (off := 34) (tgt := 35) hx hb dX4_goOn_1 (by decide) (by rw [c2]; rfl) (by decide) ?_
    refine lv_iconst (v := 1) hx hb dX4_goOn_35 (by decide) ?_
    obtain rfl := Option.some.inj h
    exact hret _ _ _ _ _ hP hD hS dX4_goOn_36 (nz_of (Or.inr rfl)) rfl
  have h := br_neg c2 h
  refine lv_lookup (off := 36) (tgt := 37) hx hb dX4_goOn_1 (by decide) (lk_1 c1 (lk_1 c2 lk_0)) (by decide) ?_
  refine lv_aload_n hx hb dX4_goOn_37 rfl (lv_at hl 0 rfl) ?_
  refine lv_iconst (v := 2) hx hb dX4_goOn_38 (by decide) ?_
  refine lv_iconst (v := 3) hx hb dX4_goOn_39 (by decide) ?_
  obtain ⟨u5, hu5, h⟩ := bd_some h
  refine cl_Vi (rest := []) F hK hP hD hS hA hl (t_X4_multiply l D cyI cyJ cyZ cyB cyO aS aS_keptTop aS_keptBottom aS_keptFits aS_onTop aS_onBottom aS_onFits vS_top vS_bottom (2 : Int32) (3 : Int32) u5 hu5) (cwV 2 hts gX4_goOn_X4_multiply rfl rfl rfl (by decide +kernel) ⟨Nat.le_of_ble_eq_true rfl, Nat.le_of_ble_eq_true rfl⟩) 0 [0] [1] [] (w_X4_goOn cyI cyJ cyZ cyB cyO aS aS_keptTop aS_keptBottom aS_keptFits aS_onTop aS_onBottom aS_onFits u5.2.1 u5.2.2) rfl rfl rfl rfl rfl (by decide +kernel) rfl rfl (Nat.le_of_ble_eq_true rfl) ⟨Nat.zero_le _, Nat.zero_le _⟩ dX4_goOn_40 (fun H locs hP hD hS => ?_)
  obtain ⟨g6, h⟩ := gd_some h
  obtain rfl := Option.some.inj h
  exact hret _ _ _ _ _ hP hD hS dX4_goOn_43 (nz_of g6) rfl
/-! ===== X4_reckon ===== -/
def w_X4_reckon (cyI cyJ cyZ cyB cyO : ClassId) (aF aS aF_above aS_onTop aS_onBottom aS_onFits aF_edge aF_kind aS_keptTop aS_keptBottom aS_keptFits aF_pool aF_store aF_spot : Nat) (vF_basins : Int32) (vF_spring : Int32) (vF_hour : Int32) (vF_z : Int32) (vS_top : Int64) (vS_bottom : Int64) (cF_above : Nat → Int32) (cS_onTop : Nat → Int64) (cS_onBottom : Nat → Int64) (cS_onFits : Nat → Int32) (cF_edge : Nat → Int32) (cF_kind : Nat → Int32) (cS_keptTop : Nat → Int64) (cS_keptBottom : Nat → Int64) (cS_keptFits : Nat → Int32) : va_W := [(aF, .inr (2, [.ref aF_kind, .ref aF_above, .ref aF_edge, .ref aF_pool, .ref aF_store, .ref aF_spot, .int vF_basins, .int vF_spring, .int vF_hour, .int vF_z])), (aS, .inr (3, [.ref aS_keptTop, .ref aS_keptBottom, .ref aS_keptFits, .ref aS_onTop, .ref aS_onBottom, .ref aS_onFits, .long vS_top, .long vS_bottom])), (aF_above, .inl (cyI, 10, .inl cF_above)), (aS_onTop, .inl (cyJ, 10, .inr (.inl cS_onTop))), (aS_onBottom, .inl (cyJ, 10, .inr (.inl cS_onBottom))), (aS_onFits, .inl (cyZ, 10, .inl cS_onFits)), (aF_edge, .inl (cyI, 10, .inl cF_edge)), (aF_kind, .inl (cyI, 10, .inl cF_kind)), (aS_keptTop, .inl (cyJ, 10, .inr (.inl cS_keptTop))), (aS_keptBottom, .inl (cyJ, 10, .inr (.inl cS_keptBottom))), (aS_keptFits, .inl (cyZ, 10, .inl cS_keptFits))]
set_option maxHeartbeats 4000000 in
set_option maxRecDepth 100000 in
theorem t_X4_reckon (l : Launch) (D : va_G) (cyI cyJ cyZ cyB cyO : ClassId) (aF aS aF_above aS_onTop aS_onBottom aS_onFits aF_edge aF_kind aS_keptTop aS_keptBottom aS_keptFits aF_pool aF_store aF_spot : Nat) (vF_basins : Int32) (vF_spring : Int32) (vF_hour : Int32) (vF_z : Int32) (vS_top : Int64) (vS_bottom : Int64) (cF_above : Nat → Int32) (cS_onTop : Nat → Int64) (cS_onBottom : Nat → Int64) (cS_onFits : Nat → Int32) (cF_edge : Nat → Int32) (cF_kind : Nat → Int32) (cS_keptTop : Nat → Int64) (cS_keptBottom : Nat → Int64) (cS_keptFits : Nat → Int32) (out : Int64 × Int64 × (Nat → Int64) × (Nat → Int64) × (Nat → Int32) × (Nat → Int64) × (Nat → Int64) × (Nat → Int32)) (h : f_X4_reckon vF_basins vS_top vS_bottom cF_above cS_onTop cS_onBottom cS_onFits cF_edge cF_kind cS_keptTop cS_keptBottom cS_keptFits = some out) : Mv l yX4_reckon wsX4_reckon ({ frames := 3, cells := 0, slots := 0, locals := 77 } : Room) D (tyA cyI cyJ cyZ cyB cyO) [.ref aS, .ref aF] (w_X4_reckon cyI cyJ cyZ cyB cyO aF aS aF_above aS_onTop aS_onBottom aS_onFits aF_edge aF_kind aS_keptTop aS_keptBottom aS_keptFits aF_pool aF_store aF_spot vF_basins vF_spring vF_hour vF_z vS_top vS_bottom cF_above cS_onTop cS_onBottom cS_onFits cF_edge cF_kind cS_keptTop cS_keptBottom cS_keptFits) (w_X4_reckon cyI cyJ cyZ cyB cyO aF aS aF_above aS_onTop aS_onBottom aS_onFits aF_edge aF_kind aS_keptTop aS_keptBottom aS_keptFits aF_pool aF_store aF_spot vF_basins vF_spring vF_hour vF_z out.1 out.2.1 cF_above out.2.2.1 out.2.2.2.1 out.2.2.2.2.1 cF_edge cF_kind out.2.2.2.2.2.1 out.2.2.2.2.2.2.1 out.2.2.2.2.2.2.2) := by
  refine Mv.mk (cc := cX4_reckon) (maxL := 8) (own := RX4) (by decide) rfl rfl (Nat.le_of_ble_eq_true rfl) ?_
  intro p e s m args below meth c A Q F hK hP hD hA hret ls hl
  obtain ⟨hx, hb, hml, hown, hts⟩ := id F
  have hS : va_S A s.heap s.heap [] := va_S.rf
  have hl : lv_has ls 8 [(0, .ref aS), (1, .ref aF)] := hl
  have in_X2 : ∀ w ∈ wsX20, w ∈ wsX4_reckon := by decide +kernel
  have in_X4 : ∀ w ∈ wsX40, w ∈ wsX4_reckon := by decide +kernel
  have q1 := hts (Cond.fieldLink RX4 38 "ThirdFountain$Fountain" "basins" "I") (List.mem_of_getElem? (i := 1) rfl)
  have q11 := hts (Cond.methodLink RX4 44 yX4_comingTo) (List.mem_of_getElem? (i := 11) rfl)
  have q3 := hts (Cond.fieldLink RX4 31 "ThirdFountain$Shares" "top" "J") (List.mem_of_getElem? (i := 3) rfl)
  have q4 := hts (Cond.fieldLink RX4 35 "ThirdFountain$Shares" "bottom" "J") (List.mem_of_getElem? (i := 4) rfl)
  have q5 := hts (Cond.fieldLink RX4 9 "ThirdFountain$Shares" "keptTop" "[J") (List.mem_of_getElem? (i := 5) rfl)
  have q6 := hts (Cond.fieldLink RX4 15 "ThirdFountain$Shares" "keptBottom" "[J") (List.mem_of_getElem? (i := 6) rfl)
  have q7 := hts (Cond.fieldLink RX4 18 "ThirdFountain$Shares" "keptFits" "[Z") (List.mem_of_getElem? (i := 7) rfl)
  have q8 := hts (Cond.fieldLink RX4 22 "ThirdFountain$Shares" "onTop" "[J") (List.mem_of_getElem? (i := 8) rfl)
  have q9 := hts (Cond.fieldLink RX4 25 "ThirdFountain$Shares" "onBottom" "[J") (List.mem_of_getElem? (i := 9) rfl)
  have q10 := hts (Cond.fieldLink RX4 28 "ThirdFountain$Shares" "onFits" "[Z") (List.mem_of_getElem? (i := 10) rfl)
  have q2 := hts (Cond.fieldLink RX4 48 "ThirdFountain$Fountain" "kind" "[I") (List.mem_of_getElem? (i := 2) rfl)
  have q42 := hts (Cond.methodLink RX4 66 yX4_goOn) (List.mem_of_getElem? (i := 42) rfl)
  have q38 := hts (Cond.methodLink RX4 62 yX4_keep) (List.mem_of_getElem? (i := 38) rfl)
  have q34 := hts (Cond.methodLink RX4 52 yX3_tenthsLeaked) (List.mem_of_getElem? (i := 34) rfl)
  have q26 := hts (Cond.methodLink RX4 58 yX4_multiply) (List.mem_of_getElem? (i := 26) rfl)
  unfold f_X4_reckon at h
  refine lv_iconst (v := 0) hx hb dX4_reckon_0 (by decide) ?_
  refine lv_istore_n (lv' := [(2, .int (0 : Int32)), (0, .ref aS), (1, .ref aF)]) hx hb dX4_reckon_1 rfl hl (by decide) rfl (fun ls hl => ?_)
  have lp2 : ∀ (k2 : Nat) (y2 : Int32) (vS_top : Int64) (vS_bottom : Int64) (cS_onTop : Nat → Int64) (cS_onBottom : Nat → Int64) (cS_onFits : Nat → Int32) (cS_keptTop : Nat → Int64) (cS_keptBottom : Nat → Int64) (cS_keptFits : Nat → Int32) (H : Heap) (locs : List Loc) (ls : Array Slot), va_P D vwCl (w_X4_reckon cyI cyJ cyZ cyB cyO aF aS aF_above aS_onTop aS_onBottom aS_onFits aF_edge aF_kind aS_keptTop aS_keptBottom aS_keptFits aF_pool aF_store aF_spot vF_basins vF_spring vF_hour vF_z vS_top vS_bottom cF_above cS_onTop cS_onBottom cS_onFits cF_edge cF_kind cS_keptTop cS_keptBottom cS_keptFits) H → va_D A (w_X4_reckon cyI cyJ cyZ cyB cyO aF aS aF_above aS_onTop aS_onBottom aS_onFits aF_edge aF_kind aS_keptTop aS_keptBottom aS_keptFits aF_pool aF_store aF_spot vF_basins vF_spring vF_hour vF_z vS_top vS_bottom cF_above cS_onTop cS_onBottom cS_onFits cF_edge cF_kind cS_keptTop cS_keptBottom cS_keptFits) → va_S A s.heap H locs → lv_has ls 8 [(2, .int y2), (0, .ref aS), (1, .ref aF)] → (f_X4_reckon_L2 vF_basins cF_above cF_edge cF_kind k2) (y2, vS_top, vS_bottom, cS_onTop, cS_onBottom, cS_onFits, cS_keptTop, cS_keptBottom, cS_keptFits) = some out → W p l e ({ frames := 3, cells := 0, slots := 0, locals := 77 } : Room) s m args below meth c H locs 0 0 Q (F0 m 2 ls []) := by
    intro k2
    induction k2 with
    | zero => intro y2 vS_top vS_bottom cS_onTop cS_onBottom cS_onFits cS_keptTop cS_keptBottom cS_keptFits H locs ls hP hD hS hl h; cases h
    | succ k2 ih2 =>
      intro y2 vS_top vS_bottom cS_onTop cS_onBottom cS_onFits cS_keptTop cS_keptBottom cS_keptFits H locs ls hP hD hS hl h
      have h : f_X4_reckon_L2_b vF_basins cF_above cF_edge cF_kind (f_X4_reckon_L2 vF_basins cF_above cF_edge cF_kind k2) y2 vS_top vS_bottom cS_onTop cS_onBottom cS_onFits cS_keptTop cS_keptBottom cS_keptFits = some out := h
      unfold f_X4_reckon_L2_b at h
      refine lv_iload_n hx hb dX4_reckon_2 rfl (lv_at hl 0 rfl) ?_
      refine lv_aload_n hx hb dX4_reckon_3 rfl (lv_at hl 2 rfl) ?_
      refine va_get (D := D) (ci := 2) (v := .int vF_basins) (C := RX2) (T := TX2) (N := 10) hx hb hts in_X2 hown hK hP 0 rfl rfl 6 (by decide) q1 (fun _ h9 => h9) rfl dX4_reckon_4 ?_
      refine lv_icmp_ge (tgt := 176) hx hb dX4_reckon_7 (by decide) (fun c1 => ?_) (fun c1 => ?_)
      · have h := br_pos c1 h
        obtain rfl := Option.some.inj h
        exact hret _ _ _ _ hP hD hS dX4_reckon_176 
      · have h := br_neg c1 h
        refine lv_aload_n hx hb dX4_reckon_10 rfl (lv_at hl 1 rfl) ?_
        refine lv_aload_n hx hb dX4_reckon_11 rfl (lv_at hl 2 rfl) ?_
        refine lv_iload_n hx hb dX4_reckon_12 rfl (lv_at hl 0 rfl) ?_
        obtain ⟨u2, hu2, h⟩ := bd_some h
        refine cl_Vi (rest := []) F hK hP hD hS hA hl (t_X4_comingTo l D cyI cyJ cyZ cyB cyO aF aF_above aS aS_onTop aS_onBottom aS_onFits aF_edge aF_kind aF_pool aF_store aF_spot aS_keptTop aS_keptBottom aS_keptFits vF_basins vF_spring vF_hour vF_z cF_above vS_top vS_bottom cS_onTop cS_onBottom cS_onFits cF_edge y2 u2 hu2) (cwV 2 hts gX4_reckon_X4_comingTo rfl rfl rfl (by decide +kernel) ⟨Nat.le_of_ble_eq_true rfl, Nat.le_of_ble_eq_true rfl⟩) 1 [0, 2, 1, 3, 4, 5, 6] [1, 3, 2, 4, 5, 6, 7, 0, 0, 0, 0] [] (w_X4_reckon cyI cyJ cyZ cyB cyO aF aS aF_above aS_onTop aS_onBottom aS_onFits aF_edge aF_kind aS_keptTop aS_keptBottom aS_keptFits aF_pool aF_store aF_spot vF_basins vF_spring vF_hour vF_z u2.2.1 u2.2.2 cF_above cS_onTop cS_onBottom cS_onFits cF_edge cF_kind cS_keptTop cS_keptBottom cS_keptFits) rfl rfl rfl rfl rfl (by decide +kernel) rfl rfl (Nat.le_of_ble_eq_true rfl) ⟨Nat.zero_le _, Nat.zero_le _⟩ dX4_reckon_13 (fun H locs hP hD hS => ?_)
        have j45 : ∀ (y2 : Int32) (t0 : Int32) (vS_top : Int64) (vS_bottom : Int64) (cS_onTop : Nat → Int64) (cS_onBottom : Nat → Int64) (cS_onFits : Nat → Int32) (cS_keptTop : Nat → Int64) (cS_keptBottom : Nat → Int64) (cS_keptFits : Nat → Int32) (H : Heap) (locs : List Loc) (ls : Array Slot), va_P D vwCl (w_X4_reckon cyI cyJ cyZ cyB cyO aF aS aF_above aS_onTop aS_onBottom aS_onFits aF_edge aF_kind aS_keptTop aS_keptBottom aS_keptFits aF_pool aF_store aF_spot vF_basins vF_spring vF_hour vF_z vS_top vS_bottom cF_above cS_onTop cS_onBottom cS_onFits cF_edge cF_kind cS_keptTop cS_keptBottom cS_keptFits) H → va_D A (w_X4_reckon cyI cyJ cyZ cyB cyO aF aS aF_above aS_onTop aS_onBottom aS_onFits aF_edge aF_kind aS_keptTop aS_keptBottom aS_keptFits aF_pool aF_store aF_spot vF_basins vF_spring vF_hour vF_z vS_top vS_bottom cF_above cS_onTop cS_onBottom cS_onFits cF_edge cF_kind cS_keptTop cS_keptBottom cS_keptFits) → va_S A s.heap H locs → lv_has ls 8 [(2, .int y2), (0, .ref aS), (1, .ref aF)] → f_X4_reckon_J45 vF_basins cF_above cF_edge cF_kind (f_X4_reckon_L2 vF_basins cF_above cF_edge cF_kind k2) y2 t0 vS_top vS_bottom cS_onTop cS_onBottom cS_onFits cS_keptTop cS_keptBottom cS_keptFits = some out → W p l e ({ frames := 3, cells := 0, slots := 0, locals := 77 } : Room) s m args below meth c H locs 0 0 Q (F0 m 45 ls [.int t0]) := by
          intro y2 t0 vS_top vS_bottom cS_onTop cS_onBottom cS_onFits cS_keptTop cS_keptBottom cS_keptFits H locs ls hP hD hS hl h
          unfold f_X4_reckon_J45 at h
          refine lv_istore_n (lv' := [(3, .int t0), (2, .int y2), (0, .ref aS), (1, .ref aF)]) hx hb dX4_reckon_45 rfl hl (by decide) rfl (fun ls hl => ?_)
          refine lv_aload_n hx hb dX4_reckon_46 rfl (lv_at hl 2 rfl) ?_
          refine va_get (D := D) (ci := 3) (v := .long vS_top) (C := RX4) (T := TX4) (N := 8) hx hb hts in_X4 hown hK hP 1 rfl rfl 6 (by decide) q3 (fun _ h9 => h9) rfl dX4_reckon_47 ?_
          refine lv_lstore (lv' := [(4, .long vS_top), (3, .int t0), (2, .int y2), (0, .ref aS), (1, .ref aF)]) hx hb dX4_reckon_50 hl (by decide) rfl (fun ls hl => ?_)
          refine lv_aload_n hx hb dX4_reckon_52 rfl (lv_at hl 3 rfl) ?_
          refine va_get (D := D) (ci := 3) (v := .long vS_bottom) (C := RX4) (T := TX4) (N := 8) hx hb hts in_X4 hown hK hP 1 rfl rfl 7 (by decide) q4 (fun _ h9 => h9) rfl dX4_reckon_53 ?_
          refine lv_lstore (lv' := [(6, .long vS_bottom), (4, .long vS_top), (3, .int t0), (2, .int y2), (0, .ref aS), (1, .ref aF)]) hx hb dX4_reckon_56 hl (by decide) rfl (fun ls hl => ?_)
          refine lv_iload_n hx hb dX4_reckon_58 rfl (lv_at hl 2 rfl) ?_
          have j80 : ∀ (y2 : Int32) (y4 : Int64) (y6 : Int64) (t0 : Int32) (vS_top : Int64) (vS_bottom : Int64) (cS_onTop : Nat → Int64) (cS_onBottom : Nat → Int64) (cS_onFits : Nat → Int32) (cS_keptTop : Nat → Int64) (cS_keptBottom : Nat → Int64) (cS_keptFits : Nat → Int32) (H : Heap) (locs : List Loc) (ls : Array Slot), va_P D vwCl (w_X4_reckon cyI cyJ cyZ cyB cyO aF aS aF_above aS_onTop aS_onBottom aS_onFits aF_edge aF_kind aS_keptTop aS_keptBottom aS_keptFits aF_pool aF_store aF_spot vF_basins vF_spring vF_hour vF_z vS_top vS_bottom cF_above cS_onTop cS_onBottom cS_onFits cF_edge cF_kind cS_keptTop cS_keptBottom cS_keptFits) H → va_D A (w_X4_reckon cyI cyJ cyZ cyB cyO aF aS aF_above aS_onTop aS_onBottom aS_onFits aF_edge aF_kind aS_keptTop aS_keptBottom aS_keptFits aF_pool aF_store aF_spot vF_basins vF_spring vF_hour vF_z vS_top vS_bottom cF_above cS_onTop cS_onBottom cS_onFits cF_edge cF_kind cS_keptTop cS_keptBottom cS_keptFits) → va_S A s.heap H locs → lv_has ls 8 [(2, .int y2), (4, .long y4), (6, .long y6), (0, .ref aS), (1, .ref aF)] → f_X4_reckon_J80 vF_basins cF_above cF_edge cF_kind (f_X4_reckon_L2 vF_basins cF_above cF_edge cF_kind k2) y2 y4 y6 t0 vS_top vS_bottom cS_onTop cS_onBottom cS_onFits cS_keptTop cS_keptBottom cS_keptFits = some out → W p l e ({ frames := 3, cells := 0, slots := 0, locals := 77 } : Room) s m args below meth c H locs 0 0 Q (F0 m 80 ls [.int t0]) := by
            intro y2 y4 y6 t0 vS_top vS_bottom cS_onTop cS_onBottom cS_onFits cS_keptTop cS_keptBottom cS_keptFits H locs ls hP hD hS hl h
            unfold f_X4_reckon_J80 at h
            refine lv_istore_n (lv' := [(3, .int t0), (2, .int y2), (4, .long y4), (6, .long y6), (0, .ref aS), (1, .ref aF)]) hx hb dX4_reckon_80 rfl hl (by decide) rfl (fun ls hl => ?_)
            refine lv_aload_n hx hb dX4_reckon_81 rfl (lv_at hl 4 rfl) ?_
            refine va_get (D := D) (ci := 3) (v := .ref aS_keptTop) (C := RX4) (T := TX4) (N := 8) hx hb hts in_X4 hown hK hP 1 rfl rfl 0 (by decide) q5 (fun _ h9 => h9) rfl dX4_reckon_82 ?_
            refine lv_iload_n hx hb dX4_reckon_85 rfl (lv_at hl 1 rfl) ?_
            refine lv_aload_n hx hb dX4_reckon_86 rfl (lv_at hl 4 rfl) ?_
            refine va_get (D := D) (ci := 3) (v := .long vS_top) (C := RX4) (T := TX4) (N := 8) hx hb hts in_X4 hown hK hP 1 rfl rfl 6 (by decide) q3 (fun _ h9 => h9) rfl dX4_reckon_87 ?_
            obtain ⟨g3, h⟩ := gd_some h
            refine va_last hx hb hK hP hD hS 8 1 rfl rfl g3 dX4_reckon_90 (fun H locs hP hD hS => ?_)
            have hP : va_P D vwCl (w_X4_reckon cyI cyJ cyZ cyB cyO aF aS aF_above aS_onTop aS_onBottom aS_onFits aF_edge aF_kind aS_keptTop aS_keptBottom aS_keptFits aF_pool aF_store aF_spot vF_basins vF_spring vF_hour vF_z vS_top vS_bottom cF_above cS_onTop cS_onBottom cS_onFits cF_edge cF_kind (vp_updL cS_keptTop y2.toNatClampNeg vS_top) cS_keptBottom cS_keptFits) H := hP
            have hD : va_D A (w_X4_reckon cyI cyJ cyZ cyB cyO aF aS aF_above aS_onTop aS_onBottom aS_onFits aF_edge aF_kind aS_keptTop aS_keptBottom aS_keptFits aF_pool aF_store aF_spot vF_basins vF_spring vF_hour vF_z vS_top vS_bottom cF_above cS_onTop cS_onBottom cS_onFits cF_edge cF_kind (vp_updL cS_keptTop y2.toNatClampNeg vS_top) cS_keptBottom cS_keptFits) := hD
            refine lv_aload_n hx hb dX4_reckon_91 rfl (lv_at hl 4 rfl) ?_
            refine va_get (D := D) (ci := 3) (v := .ref aS_keptBottom) (C := RX4) (T := TX4) (N := 8) hx hb hts in_X4 hown hK hP 1 rfl rfl 1 (by decide) q6 (fun _ h9 => h9) rfl dX4_reckon_92 ?_
            refine lv_iload_n hx hb dX4_reckon_95 rfl (lv_at hl 1 rfl) ?_
            refine lv_aload_n hx hb dX4_reckon_96 rfl (lv_at hl 4 rfl) ?_
            refine va_get (D := D) (ci := 3) (v := .long vS_bottom) (C := RX4) (T := TX4) (N := 8) hx hb hts in_X4 hown hK hP 1 rfl rfl 7 (by decide) q4 (fun _ h9 => h9) rfl dX4_reckon_97 ?_
            obtain ⟨g4, h⟩ := gd_some h
            refine va_last hx hb hK hP hD hS 9 1 rfl rfl g4 dX4_reckon_100 (fun H locs hP hD hS => ?_)
            have hP : va_P D vwCl (w_X4_reckon cyI cyJ cyZ cyB cyO aF aS aF_above aS_onTop aS_onBottom aS_onFits aF_edge aF_kind aS_keptTop aS_keptBottom aS_keptFits aF_pool aF_store aF_spot vF_basins vF_spring vF_hour vF_z vS_top vS_bottom cF_above cS_onTop cS_onBottom cS_onFits cF_edge cF_kind (vp_updL cS_keptTop y2.toNatClampNeg vS_top) (vp_updL cS_keptBottom y2.toNatClampNeg vS_bottom) cS_keptFits) H := hP
            have hD : va_D A (w_X4_reckon cyI cyJ cyZ cyB cyO aF aS aF_above aS_onTop aS_onBottom aS_onFits aF_edge aF_kind aS_keptTop aS_keptBottom aS_keptFits aF_pool aF_store aF_spot vF_basins vF_spring vF_hour vF_z vS_top vS_bottom cF_above cS_onTop cS_onBottom cS_onFits cF_edge cF_kind (vp_updL cS_keptTop y2.toNatClampNeg vS_top) (vp_updL cS_keptBottom y2.toNatClampNeg vS_bottom) cS_keptFits) := hD
            refine lv_aload_n hx hb dX4_reckon_101 rfl (lv_at hl 4 rfl) ?_
            refine va_get (D := D) (ci := 3) (v := .ref aS_keptFits) (C := RX4) (T := TX4) (N := 8) hx hb hts in_X4 hown hK hP 1 rfl rfl 2 (by decide) q7 (fun _ h9 => h9) rfl dX4_reckon_102 ?_
            refine lv_iload_n hx hb dX4_reckon_105 rfl (lv_at hl 1 rfl) ?_
            refine lv_iload_n hx hb dX4_reckon_106 rfl (lv_at hl 0 rfl) ?_
            obtain ⟨g5, h⟩ := gd_some h
            refine va_zast hx hb hK hP hD hS 10 2 rfl rfl g5 dX4_reckon_107 (fun H locs hP hD hS => ?_)
            have hP : va_P D vwCl (w_X4_reckon cyI cyJ cyZ cyB cyO aF aS aF_above aS_onTop aS_onBottom aS_onFits aF_edge aF_kind aS_keptTop aS_keptBottom aS_keptFits aF_pool aF_store aF_spot vF_basins vF_spring vF_hour vF_z vS_top vS_bottom cF_above cS_onTop cS_onBottom cS_onFits cF_edge cF_kind (vp_updL cS_keptTop y2.toNatClampNeg vS_top) (vp_updL cS_keptBottom y2.toNatClampNeg vS_bottom) (upd cS_keptFits y2.toNatClampNeg (vp_nar .boolean t0))) H := hP
            have hD : va_D A (w_X4_reckon cyI cyJ cyZ cyB cyO aF aS aF_above aS_onTop aS_onBottom aS_onFits aF_edge aF_kind aS_keptTop aS_keptBottom aS_keptFits aF_pool aF_store aF_spot vF_basins vF_spring vF_hour vF_z vS_top vS_bottom cF_above cS_onTop cS_onBottom cS_onFits cF_edge cF_kind (vp_updL cS_keptTop y2.toNatClampNeg vS_top) (vp_updL cS_keptBottom y2.toNatClampNeg vS_bottom) (upd cS_keptFits y2.toNatClampNeg (vp_nar .boolean t0))) := hD
            refine lv_aload_n hx hb dX4_reckon_108 rfl (lv_at hl 4 rfl) ?_
            refine lv_lload hx hb dX4_reckon_109 (lv_at hl 2 rfl) ?_
            refine va_put (D := D) (ci := 3) (v := .long y4) (ty := .long) (C := RX4) (T := TX4) (N := 8) hx hb hts in_X4 tyX4 tyX4_ok nmX4 hown hK hP hD hS 1 rfl rfl 6 (by decide) q3 (fun _ h9 => h9) rfl (by decide +kernel) rfl rfl (Nat.le_of_ble_eq_true rfl) dX4_reckon_111 (fun H locs hP hD hS => ?_)
            have hP : va_P D vwCl (w_X4_reckon cyI cyJ cyZ cyB cyO aF aS aF_above aS_onTop aS_onBottom aS_onFits aF_edge aF_kind aS_keptTop aS_keptBottom aS_keptFits aF_pool aF_store aF_spot vF_basins vF_spring vF_hour vF_z y4 vS_bottom cF_above cS_onTop cS_onBottom cS_onFits cF_edge cF_kind (vp_updL cS_keptTop y2.toNatClampNeg vS_top) (vp_updL cS_keptBottom y2.toNatClampNeg vS_bottom) (upd cS_keptFits y2.toNatClampNeg (vp_nar .boolean t0))) H := hP
            have hD : va_D A (w_X4_reckon cyI cyJ cyZ cyB cyO aF aS aF_above aS_onTop aS_onBottom aS_onFits aF_edge aF_kind aS_keptTop aS_keptBottom aS_keptFits aF_pool aF_store aF_spot vF_basins vF_spring vF_hour vF_z y4 vS_bottom cF_above cS_onTop cS_onBottom cS_onFits cF_edge cF_kind (vp_updL cS_keptTop y2.toNatClampNeg vS_top) (vp_updL cS_keptBottom y2.toNatClampNeg vS_bottom) (upd cS_keptFits y2.toNatClampNeg (vp_nar .boolean t0))) := hD
            refine lv_aload_n hx hb dX4_reckon_114 rfl (lv_at hl 4 rfl) ?_
            refine lv_lload hx hb dX4_reckon_115 (lv_at hl 3 rfl) ?_
            refine va_put (D := D) (ci := 3) (v := .long y6) (ty := .long) (C := RX4) (T := TX4) (N := 8) hx hb hts in_X4 tyX4 tyX4_ok nmX4 hown hK hP hD hS 1 rfl rfl 7 (by decide) q4 (fun _ h9 => h9) rfl (by decide +kernel) rfl rfl (Nat.le_of_ble_eq_true rfl) dX4_reckon_117 (fun H locs hP hD hS => ?_)
            have hP : va_P D vwCl (w_X4_reckon cyI cyJ cyZ cyB cyO aF aS aF_above aS_onTop aS_onBottom aS_onFits aF_edge aF_kind aS_keptTop aS_keptBottom aS_keptFits aF_pool aF_store aF_spot vF_basins vF_spring vF_hour vF_z y4 y6 cF_above cS_onTop cS_onBottom cS_onFits cF_edge cF_kind (vp_updL cS_keptTop y2.toNatClampNeg vS_top) (vp_updL cS_keptBottom y2.toNatClampNeg vS_bottom) (upd cS_keptFits y2.toNatClampNeg (vp_nar .boolean t0))) H := hP
            have hD : va_D A (w_X4_reckon cyI cyJ cyZ cyB cyO aF aS aF_above aS_onTop aS_onBottom aS_onFits aF_edge aF_kind aS_keptTop aS_keptBottom aS_keptFits aF_pool aF_store aF_spot vF_basins vF_spring vF_hour vF_z y4 y6 cF_above cS_onTop cS_onBottom cS_onFits cF_edge cF_kind (vp_updL cS_keptTop y2.toNatClampNeg vS_top) (vp_updL cS_keptBottom y2.toNatClampNeg vS_bottom) (upd cS_keptFits y2.toNatClampNeg (vp_nar .boolean t0))) := hD
            refine lv_iload_n hx hb dX4_reckon_120 rfl (lv_at hl 0 rfl) ?_
            have j142 : ∀ (y2 : Int32) (t0 : Int32) (vS_top : Int64) (vS_bottom : Int64) (cS_onTop : Nat → Int64) (cS_onBottom : Nat → Int64) (cS_onFits : Nat → Int32) (cS_keptTop : Nat → Int64) (cS_keptBottom : Nat → Int64) (cS_keptFits : Nat → Int32) (H : Heap) (locs : List Loc) (ls : Array Slot), va_P D vwCl (w_X4_reckon cyI cyJ cyZ cyB cyO aF aS aF_above aS_onTop aS_onBottom aS_onFits aF_edge aF_kind aS_keptTop aS_keptBottom aS_keptFits aF_pool aF_store aF_spot vF_basins vF_spring vF_hour vF_z vS_top vS_bottom cF_above cS_onTop cS_onBottom cS_onFits cF_edge cF_kind cS_keptTop cS_keptBottom cS_keptFits) H → va_D A (w_X4_reckon cyI cyJ cyZ cyB cyO aF aS aF_above aS_onTop aS_onBottom aS_onFits aF_edge aF_kind aS_keptTop aS_keptBottom aS_keptFits aF_pool aF_store aF_spot vF_basins vF_spring vF_hour vF_z vS_top vS_bottom cF_above cS_onTop cS_onBottom cS_onFits cF_edge cF_kind cS_keptTop cS_keptBottom cS_keptFits) → va_S A s.heap H locs → lv_has ls 8 [(2, .int y2), (0, .ref aS), (1, .ref aF)] → f_X4_reckon_J142 vF_basins cF_above cF_edge cF_kind (f_X4_reckon_L2 vF_basins cF_above cF_edge cF_kind k2) y2 t0 vS_top vS_bottom cS_onTop cS_onBottom cS_onFits cS_keptTop cS_keptBottom cS_keptFits = some out → W p l e ({ frames := 3, cells := 0, slots := 0, locals := 77 } : Room) s m args below meth c H locs 0 0 Q (F0 m 142 ls [.int t0]) := by
              intro y2 t0 vS_top vS_bottom cS_onTop cS_onBottom cS_onFits cS_keptTop cS_keptBottom cS_keptFits H locs ls hP hD hS hl h
              unfold f_X4_reckon_J142 at h
              refine lv_istore_n (lv' := [(3, .int t0), (2, .int y2), (0, .ref aS), (1, .ref aF)]) hx hb dX4_reckon_142 rfl hl (by decide) rfl (fun ls hl => ?_)
              refine lv_aload_n hx hb dX4_reckon_143 rfl (lv_at hl 2 rfl) ?_
              refine va_get (D := D) (ci := 3) (v := .ref aS_onTop) (C := RX4) (T := TX4) (N := 8) hx hb hts in_X4 hown hK hP 1 rfl rfl 3 (by decide) q8 (fun _ h9 => h9) rfl dX4_reckon_144 ?_
              refine lv_iload_n hx hb dX4_reckon_147 rfl (lv_at hl 1 rfl) ?_
              refine lv_aload_n hx hb dX4_reckon_148 rfl (lv_at hl 2 rfl) ?_
              refine va_get (D := D) (ci := 3) (v := .long vS_top) (C := RX4) (T := TX4) (N := 8) hx hb hts in_X4 hown hK hP 1 rfl rfl 6 (by decide) q3 (fun _ h9 => h9) rfl dX4_reckon_149 ?_
              obtain ⟨g6, h⟩ := gd_some h
              refine va_last hx hb hK hP hD hS 3 1 rfl rfl g6 dX4_reckon_152 (fun H locs hP hD hS => ?_)
              have hP : va_P D vwCl (w_X4_reckon cyI cyJ cyZ cyB cyO aF aS aF_above aS_onTop aS_onBottom aS_onFits aF_edge aF_kind aS_keptTop aS_keptBottom aS_keptFits aF_pool aF_store aF_spot vF_basins vF_spring vF_hour vF_z vS_top vS_bottom cF_above (vp_updL cS_onTop y2.toNatClampNeg vS_top) cS_onBottom cS_onFits cF_edge cF_kind cS_keptTop cS_keptBottom cS_keptFits) H := hP
              have hD : va_D A (w_X4_reckon cyI cyJ cyZ cyB cyO aF aS aF_above aS_onTop aS_onBottom aS_onFits aF_edge aF_kind aS_keptTop aS_keptBottom aS_keptFits aF_pool aF_store aF_spot vF_basins vF_spring vF_hour vF_z vS_top vS_bottom cF_above (vp_updL cS_onTop y2.toNatClampNeg vS_top) cS_onBottom cS_onFits cF_edge cF_kind cS_keptTop cS_keptBottom cS_keptFits) := hD
              refine lv_aload_n hx hb dX4_reckon_153 rfl (lv_at hl 2 rfl) ?_
              refine va_get (D := D) (ci := 3) (v := .ref aS_onBottom) (C := RX4) (T := TX4) (N := 8) hx hb hts in_X4 hown hK hP 1 rfl rfl 4 (by decide) q9 (fun _ h9 => h9) rfl dX4_reckon_154 ?_
              refine lv_iload_n hx hb dX4_reckon_157 rfl (lv_at hl 1 rfl) ?_
              refine lv_aload_n hx hb dX4_reckon_158 rfl (lv_at hl 2 rfl) ?_
              refine va_get (D := D) (ci := 3) (v := .long vS_bottom) (C := RX4) (T := TX4) (N := 8) hx hb hts in_X4 hown hK hP 1 rfl rfl 7 (by decide) q4 (fun _ h9 => h9) rfl dX4_reckon_159 ?_
              obtain ⟨g7, h⟩ := gd_some h
              refine va_last hx hb hK hP hD hS 4 1 rfl rfl g7 dX4_reckon_162 (fun H locs hP hD hS => ?_)
              have hP : va_P D vwCl (w_X4_reckon cyI cyJ cyZ cyB cyO aF aS aF_above aS_onTop aS_onBottom aS_onFits aF_edge aF_kind aS_keptTop aS_keptBottom aS_keptFits aF_pool aF_store aF_spot vF_basins vF_spring vF_hour vF_z vS_top vS_bottom cF_above (vp_updL cS_onTop y2.toNatClampNeg vS_top) (vp_updL cS_onBottom y2.toNatClampNeg vS_bottom) cS_onFits cF_edge cF_kind cS_keptTop cS_keptBottom cS_keptFits) H := hP
              have hD : va_D A (w_X4_reckon cyI cyJ cyZ cyB cyO aF aS aF_above aS_onTop aS_onBottom aS_onFits aF_edge aF_kind aS_keptTop aS_keptBottom aS_keptFits aF_pool aF_store aF_spot vF_basins vF_spring vF_hour vF_z vS_top vS_bottom cF_above (vp_updL cS_onTop y2.toNatClampNeg vS_top) (vp_updL cS_onBottom y2.toNatClampNeg vS_bottom) cS_onFits cF_edge cF_kind cS_keptTop cS_keptBottom cS_keptFits) := hD
              refine lv_aload_n hx hb dX4_reckon_163 rfl (lv_at hl 2 rfl) ?_
              refine va_get (D := D) (ci := 3) (v := .ref aS_onFits) (C := RX4) (T := TX4) (N := 8) hx hb hts in_X4 hown hK hP 1 rfl rfl 5 (by decide) q10 (fun _ h9 => h9) rfl dX4_reckon_164 ?_
              refine lv_iload_n hx hb dX4_reckon_167 rfl (lv_at hl 1 rfl) ?_
              refine lv_iload_n hx hb dX4_reckon_168 rfl (lv_at hl 0 rfl) ?_
              obtain ⟨g8, h⟩ := gd_some h
              refine va_zast hx hb hK hP hD hS 5 2 rfl rfl g8 dX4_reckon_169 (fun H locs hP hD hS => ?_)
              have hP : va_P D vwCl (w_X4_reckon cyI cyJ cyZ cyB cyO aF aS aF_above aS_onTop aS_onBottom aS_onFits aF_edge aF_kind aS_keptTop aS_keptBottom aS_keptFits aF_pool aF_store aF_spot vF_basins vF_spring vF_hour vF_z vS_top vS_bottom cF_above (vp_updL cS_onTop y2.toNatClampNeg vS_top) (vp_updL cS_onBottom y2.toNatClampNeg vS_bottom) (upd cS_onFits y2.toNatClampNeg (vp_nar .boolean t0)) cF_edge cF_kind cS_keptTop cS_keptBottom cS_keptFits) H := hP
              have hD : va_D A (w_X4_reckon cyI cyJ cyZ cyB cyO aF aS aF_above aS_onTop aS_onBottom aS_onFits aF_edge aF_kind aS_keptTop aS_keptBottom aS_keptFits aF_pool aF_store aF_spot vF_basins vF_spring vF_hour vF_z vS_top vS_bottom cF_above (vp_updL cS_onTop y2.toNatClampNeg vS_top) (vp_updL cS_onBottom y2.toNatClampNeg vS_bottom) (upd cS_onFits y2.toNatClampNeg (vp_nar .boolean t0)) cF_edge cF_kind cS_keptTop cS_keptBottom cS_keptFits) := hD
              refine lv_iinc (v := y2 + 1) (lv' := [(2, .int (y2 + 1)), (3, .int t0), (0, .ref aS), (1, .ref aF)]) hx hb dX4_reckon_170 hl (k := 1) rfl rfl (by decide) rfl (fun ls hl => ?_)
              refine lv_goto (tgt := 2) hx hb dX4_reckon_173 (by decide) ?_
              exact ih2 (y2 + 1) vS_top vS_bottom (vp_updL cS_onTop y2.toNatClampNeg vS_top) (vp_updL cS_onBottom y2.toNatClampNeg vS_bottom) (upd cS_onFits y2.toNatClampNeg (vp_nar .boolean t0)) cS_keptTop cS_keptBottom cS_keptFits _ _ _ hP hD hS (lv_sub hl [0, 2, 3] rfl) h
            refine lv_if_eq (tgt := 141) hx hb dX4_reckon_121 (by decide) (fun c9 => ?_) (fun c9 => ?_)
            · have h := br_pos c9 h
              refine lv_iconst (v := 0) hx hb dX4_reckon_141 (by decide) ?_
              exact j142 y2 (0 : Int32) y4 y6 cS_onTop cS_onBottom cS_onFits (vp_updL cS_keptTop y2.toNatClampNeg vS_top) (vp_updL cS_keptBottom y2.toNatClampNeg vS_bottom) (upd cS_keptFits y2.toNatClampNeg (vp_nar .boolean t0)) _ _ _ hP hD hS (lv_sub hl [1, 4, 5] rfl) h
            · have h := br_neg c9 h
              refine lv_aload_n hx hb dX4_reckon_124 rfl (lv_at hl 4 rfl) ?_
              refine lv_aload_n hx hb dX4_reckon_125 rfl (lv_at hl 5 rfl) ?_
              refine va_get (D := D) (ci := 2) (v := .ref aF_kind) (C := RX2) (T := TX2) (N := 10) hx hb hts in_X2 hown hK hP 0 rfl rfl 0 (by decide) q2 (fun _ h9 => h9) rfl dX4_reckon_126 ?_
              refine lv_iload_n hx hb dX4_reckon_129 rfl (lv_at hl 1 rfl) ?_
              obtain ⟨g10, h⟩ := gd_some h
              refine va_iald hx hb hK hP 7 0 rfl rfl g10 dX4_reckon_130 ?_
              obtain ⟨u11, hu11, h⟩ := bd_some h
              refine cl_Vi (rest := []) F hK hP hD hS hA hl (t_X4_goOn l D cyI cyJ cyZ cyB cyO aS aS_keptTop aS_keptBottom aS_keptFits aS_onTop aS_onBottom aS_onFits y4 y6 (cF_kind y2.toNatClampNeg) u11 hu11) (cwV 1 hts gX4_reckon_X4_goOn rfl rfl rfl (by decide +kernel) ⟨Nat.le_of_ble_eq_true rfl, Nat.le_of_ble_eq_true rfl⟩) 1 [1] [0, 1, 0, 0, 0, 0, 0, 0, 0, 0, 0] [] (w_X4_reckon cyI cyJ cyZ cyB cyO aF aS aF_above aS_onTop aS_onBottom aS_onFits aF_edge aF_kind aS_keptTop aS_keptBottom aS_keptFits aF_pool aF_store aF_spot vF_basins vF_spring vF_hour vF_z u11.2.1 u11.2.2 cF_above cS_onTop cS_onBottom cS_onFits cF_edge cF_kind (vp_updL cS_keptTop y2.toNatClampNeg vS_top) (vp_updL cS_keptBottom y2.toNatClampNeg vS_bottom) (upd cS_keptFits y2.toNatClampNeg (vp_nar .boolean t0))) rfl rfl rfl rfl rfl (by decide +kernel) rfl rfl (Nat.le_of_ble_eq_true rfl) ⟨Nat.zero_le _, Nat.zero_le _⟩ dX4_reckon_131 (fun H locs hP hD hS => ?_)
              refine lv_if_eq (tgt := 141) hx hb dX4_reckon_134 (by decide) (fun c12 => ?_) (fun c12 => ?_)
              · have h := br_pos c12 h
                refine lv_iconst (v := 0) hx hb dX4_reckon_141 (by decide) ?_
                exact j142 y2 (0 : Int32) u11.2.1 u11.2.2 cS_onTop cS_onBottom cS_onFits (vp_updL cS_keptTop y2.toNatClampNeg vS_top) (vp_updL cS_keptBottom y2.toNatClampNeg vS_bottom) (upd cS_keptFits y2.toNatClampNeg (vp_nar .boolean t0)) _ _ _ hP hD hS (lv_sub hl [1, 4, 5] rfl) h
              · have h := br_neg c12 h
                refine lv_iconst (v := 1) hx hb dX4_reckon_137 (by decide) ?_
                refine lv_goto (tgt := 142) hx hb dX4_reckon_138 (by decide) ?_
                exact j142 y2 (1 : Int32) u11.2.1 u11.2.2 cS_onTop cS_onBottom cS_onFits (vp_updL cS_keptTop y2.toNatClampNeg vS_top) (vp_updL cS_keptBottom y2.toNatClampNeg vS_bottom) (upd cS_keptFits y2.toNatClampNeg (vp_nar .boolean t0)) _ _ _ hP hD hS (lv_sub hl [1, 4, 5] rfl) h
          refine lv_if_eq (tgt := 79) hx hb dX4_reckon_59 (by decide) (fun c13 => ?_) (fun c13 => ?_)
          · have h := br_pos c13 h
            refine lv_iconst (v := 0) hx hb dX4_reckon_79 (by decide) ?_
            exact j80 y2 vS_top vS_bottom (0 : Int32) vS_top vS_bottom cS_onTop cS_onBottom cS_onFits cS_keptTop cS_keptBottom cS_keptFits _ _ _ hP hD hS (lv_sub hl [3, 1, 0, 4, 5] rfl) h
          · have h := br_neg c13 h
            refine lv_aload_n hx hb dX4_reckon_62 rfl (lv_at hl 4 rfl) ?_
            refine lv_aload_n hx hb dX4_reckon_63 rfl (lv_at hl 5 rfl) ?_
            refine va_get (D := D) (ci := 2) (v := .ref aF_kind) (C := RX2) (T := TX2) (N := 10) hx hb hts in_X2 hown hK hP 0 rfl rfl 0 (by decide) q2 (fun _ h9 => h9) rfl dX4_reckon_64 ?_
            refine lv_iload_n hx hb dX4_reckon_67 rfl (lv_at hl 3 rfl) ?_
            obtain ⟨g14, h⟩ := gd_some h
            refine va_iald hx hb hK hP 7 0 rfl rfl g14 dX4_reckon_68 ?_
            obtain ⟨u15, hu15, h⟩ := bd_some h
            refine cl_Vi (rest := []) F hK hP hD hS hA hl (t_X4_keep l D cyI cyJ cyZ cyB cyO aS aS_keptTop aS_keptBottom aS_keptFits aS_onTop aS_onBottom aS_onFits vS_top vS_bottom (cF_kind y2.toNatClampNeg) u15 hu15) (cwV 1 hts gX4_reckon_X4_keep rfl rfl rfl (by decide +kernel) ⟨Nat.le_of_ble_eq_true rfl, Nat.le_of_ble_eq_true rfl⟩) 1 [1] [0, 1, 0, 0, 0, 0, 0, 0, 0, 0, 0] [] (w_X4_reckon cyI cyJ cyZ cyB cyO aF aS aF_above aS_onTop aS_onBottom aS_onFits aF_edge aF_kind aS_keptTop aS_keptBottom aS_keptFits aF_pool aF_store aF_spot vF_basins vF_spring vF_hour vF_z u15.2.1 u15.2.2 cF_above cS_onTop cS_onBottom cS_onFits cF_edge cF_kind cS_keptTop cS_keptBottom cS_keptFits) rfl rfl rfl rfl rfl (by decide +kernel) rfl rfl (Nat.le_of_ble_eq_true rfl) ⟨Nat.zero_le _, Nat.zero_le _⟩ dX4_reckon_69 (fun H locs hP hD hS => ?_)
            refine lv_if_eq (tgt := 79) hx hb dX4_reckon_72 (by decide) (fun c16 => ?_) (fun c16 => ?_)
            · have h := br_pos c16 h
              refine lv_iconst (v := 0) hx hb dX4_reckon_79 (by decide) ?_
              exact j80 y2 vS_top vS_bottom (0 : Int32) u15.2.1 u15.2.2 cS_onTop cS_onBottom cS_onFits cS_keptTop cS_keptBottom cS_keptFits _ _ _ hP hD hS (lv_sub hl [3, 1, 0, 4, 5] rfl) h
            · have h := br_neg c16 h
              refine lv_iconst (v := 1) hx hb dX4_reckon_75 (by decide) ?_
              refine lv_goto (tgt := 80) hx hb dX4_reckon_76 (by decide) ?_
              exact j80 y2 vS_top vS_bottom (1 : Int32) u15.2.1 u15.2.2 cS_onTop cS_onBottom cS_onFits cS_keptTop cS_keptBottom cS_keptFits _ _ _ hP hD hS (lv_sub hl [3, 1, 0, 4, 5] rfl) h
        refine lv_if_eq (tgt := 44) hx hb dX4_reckon_16 (by decide) (fun c17 => ?_) (fun c17 => ?_)
        · have h := br_pos c17 h
          refine lv_iconst (v := 0) hx hb dX4_reckon_44 (by decide) ?_
          exact j45 y2 (0 : Int32) u2.2.1 u2.2.2 cS_onTop cS_onBottom cS_onFits cS_keptTop cS_keptBottom cS_keptFits _ _ _ hP hD hS (lv_sub hl [0, 1, 2] rfl) h
        · have h := br_neg c17 h
          refine lv_aload_n hx hb dX4_reckon_19 rfl (lv_at hl 1 rfl) ?_
          refine lv_bipush (v := 10) hx hb dX4_reckon_20 (by decide) ?_
          refine lv_aload_n hx hb dX4_reckon_22 rfl (lv_at hl 2 rfl) ?_
          refine va_get (D := D) (ci := 2) (v := .ref aF_kind) (C := RX2) (T := TX2) (N := 10) hx hb hts in_X2 hown hK hP 0 rfl rfl 0 (by decide) q2 (fun _ h9 => h9) rfl dX4_reckon_23 ?_
          refine lv_iload_n hx hb dX4_reckon_26 rfl (lv_at hl 0 rfl) ?_
          obtain ⟨g18, h⟩ := gd_some h
          refine va_iald hx hb hK hP 7 0 rfl rfl g18 dX4_reckon_27 ?_
          obtain ⟨u19, hu19, h⟩ := bd_some h
          refine cl_Si (rest := [.int (10 : Int32), .ref aS]) F hK hP hD hS hA hl (t_X3_tenthsLeaked l D cyI cyJ cyZ cyB cyO (cF_kind y2.toNatClampNeg) u19 hu19) (va_cwS 1 hts gX4_reckon_X3_tenthsLeaked rfl rfl rfl (by decide +kernel) ⟨Nat.le_of_ble_eq_true rfl, Nat.le_of_ble_eq_true rfl⟩) [] [0, 0, 0, 0, 0, 0, 0, 0, 0, 0, 0] [] (w_X4_reckon cyI cyJ cyZ cyB cyO aF aS aF_above aS_onTop aS_onBottom aS_onFits aF_edge aF_kind aS_keptTop aS_keptBottom aS_keptFits aF_pool aF_store aF_spot vF_basins vF_spring vF_hour vF_z u2.2.1 u2.2.2 cF_above cS_onTop cS_onBottom cS_onFits cF_edge cF_kind cS_keptTop cS_keptBottom cS_keptFits) rfl rfl rfl (by decide +kernel) rfl rfl (Nat.le_of_ble_eq_true rfl) ⟨Nat.zero_le _, Nat.zero_le _⟩ dX4_reckon_28 (fun H locs hP hD hS => ?_)
          refine lv_isub hx hb dX4_reckon_31 ?_
          refine lv_bipush (v := 10) hx hb dX4_reckon_32 (by decide) ?_
          obtain ⟨u20, hu20, h⟩ := bd_some h
          refine cl_Vi (rest := []) F hK hP hD hS hA hl (t_X4_multiply l D cyI cyJ cyZ cyB cyO aS aS_keptTop aS_keptBottom aS_keptFits aS_onTop aS_onBottom aS_onFits u2.2.1 u2.2.2 ((10 : Int32) - u19) (10 : Int32) u20 hu20) (cwV 2 hts gX4_reckon_X4_multiply rfl rfl rfl (by decide +kernel) ⟨Nat.le_of_ble_eq_true rfl, Nat.le_of_ble_eq_true rfl⟩) 1 [1] [0, 1, 0, 0, 0, 0, 0, 0, 0, 0, 0] [] (w_X4_reckon cyI cyJ cyZ cyB cyO aF aS aF_above aS_onTop aS_onBottom aS_onFits aF_edge aF_kind aS_keptTop aS_keptBottom aS_keptFits aF_pool aF_store aF_spot vF_basins vF_spring vF_hour vF_z u20.2.1 u20.2.2 cF_above cS_onTop cS_onBottom cS_onFits cF_edge cF_kind cS_keptTop cS_keptBottom cS_keptFits) rfl rfl rfl rfl rfl (by decide +kernel) rfl rfl (Nat.le_of_ble_eq_true rfl) ⟨Nat.zero_le _, Nat.zero_le _⟩ dX4_reckon_34 (fun H locs hP hD hS => ?_)
          refine lv_if_eq (tgt := 44) hx hb dX4_reckon_37 (by decide) (fun c21 => ?_) (fun c21 => ?_)
          · have h := br_pos c21 h
            refine lv_iconst (v := 0) hx hb dX4_reckon_44 (by decide) ?_
            exact j45 y2 (0 : Int32) u20.2.1 u20.2.2 cS_onTop cS_onBottom cS_onFits cS_keptTop cS_keptBottom cS_keptFits _ _ _ hP hD hS (lv_sub hl [0, 1, 2] rfl) h
          · have h := br_neg c21 h
            refine lv_iconst (v := 1) hx hb dX4_reckon_40 (by decide) ?_
            refine lv_goto (tgt := 45) hx hb dX4_reckon_41 (by decide) ?_
            exact j45 y2 (1 : Int32) u20.2.1 u20.2.2 cS_onTop cS_onBottom cS_onFits cS_keptTop cS_keptBottom cS_keptFits _ _ _ hP hD hS (lv_sub hl [0, 1, 2] rfl) h
  exact lp2 FU (0 : Int32) vS_top vS_bottom cS_onTop cS_onBottom cS_onFits cS_keptTop cS_keptBottom cS_keptFits _ _ _ hP hD hS (lv_sub hl [0, 1, 2] rfl) h
/-! ===== X5_isMissing ===== -/
def w_X5_isMissing (cyI cyJ cyZ cyB cyO : ClassId) (aE aE_numbers : Nat) (vE_bits : Int32) (vE_size : Int32) : va_W := [(aE, .inr (4, [.ref aE_numbers, .int vE_bits, .int vE_size]))]
set_option maxHeartbeats 4000000 in
set_option maxRecDepth 100000 in
theorem t_X5_isMissing (l : Launch) (D : va_G) (cyI cyJ cyZ cyB cyO : ClassId) (aE aE_numbers : Nat) (vE_bits : Int32) (vE_size : Int32) (out : Int32) (h : f_X5_isMissing vE_bits = some out) : Mi l yX5_isMissing wsX5_isMissing ({ frames := 0, cells := 0, slots := 0, locals := 0 } : Room) D (tyA cyI cyJ cyZ cyB cyO) [.ref aE] (w_X5_isMissing cyI cyJ cyZ cyB cyO aE aE_numbers vE_bits vE_size) (w_X5_isMissing cyI cyJ cyZ cyB cyO aE aE_numbers vE_bits vE_size) out := by
  refine Mi.mk (cc := cX5_isMissing) (maxL := 1) (rt := .boolean) (own := RX5) (by decide) rfl rfl (Nat.le_of_ble_eq_true rfl) ?_
  intro p e s m args below meth c A Q F hK hP hD hA hret ls hl
  obtain ⟨hx, hb, hml, hown, hts⟩ := id F
  have hS : va_S A s.heap s.heap [] := va_S.rf
  have hl : lv_has ls 1 [(0, .ref aE)] := hl
  have in_X5 : ∀ w ∈ wsX50, w ∈ wsX5_isMissing := by decide +kernel
  have q1 := hts (Cond.fieldLink RX5 15 "ThirdFountain$Sheet" "bits" "I") (List.mem_of_getElem? (i := 1) rfl)
  unfold f_X5_isMissing at h
  refine lv_aload_n hx hb dX5_isMissing_0 rfl (lv_at hl 0 rfl) ?_
  refine va_get (D := D) (ci := 4) (v := .int vE_bits) (C := RX5) (T := TX5) (N := 3) hx hb hts in_X5 hown hK hP 0 rfl rfl 1 (by decide) q1 (fun _ h9 => h9) rfl dX5_isMissing_1 ?_
  refine lv_if_ne (tgt := 11) hx hb dX5_isMissing_4 (by decide) (fun c1 => ?_) (fun c1 => ?_)
  · have h := br_neg c1 h
    refine lv_iconst (v := 0) hx hb dX5_isMissing_11 (by decide) ?_
    obtain rfl := Option.some.inj h
    exact hret _ _ _ _ _ hP hD hS dX5_isMissing_12 (nz_of (Or.inl rfl)) rfl
  · have h := br_pos c1 h
    refine lv_iconst (v := 1) hx hb dX5_isMissing_7 (by decide) ?_
    refine lv_goto (tgt := 12) hx hb dX5_isMissing_8 (by decide) ?_
    obtain rfl := Option.some.inj h
    exact hret _ _ _ _ _ hP hD hS dX5_isMissing_12 (nz_of (Or.inr rfl)) rfl
/-! ===== X5_begin ===== -/
def w_X5_begin (cyI cyJ cyZ cyB cyO : ClassId) (aE aE_numbers : Nat) (vE_bits : Int32) (vE_size : Int32) (cE_numbers : Nat → Int32) : va_W := [(aE, .inr (4, [.ref aE_numbers, .int vE_bits, .int vE_size])), (aE_numbers, .inl (cyI, 40, .inl cE_numbers))]
set_option maxHeartbeats 4000000 in
set_option maxRecDepth 100000 in
theorem t_X5_begin (l : Launch) (D : va_G) (cyI cyJ cyZ cyB cyO : ClassId) (aE aE_numbers : Nat) (vE_bits : Int32) (vE_size : Int32) (cE_numbers : Nat → Int32) (x1 : Int32) (x2 : Int32) (out : Int32 × Int32 × (Nat → Int32)) (h : f_X5_begin x1 x2 vE_bits vE_size cE_numbers = some out) : Mv l yX5_begin wsX5_begin ({ frames := 0, cells := 0, slots := 0, locals := 0 } : Room) D (tyA cyI cyJ cyZ cyB cyO) [.ref aE, .int x1, .int x2] (w_X5_begin cyI cyJ cyZ cyB cyO aE aE_numbers vE_bits vE_size cE_numbers) (w_X5_begin cyI cyJ cyZ cyB cyO aE aE_numbers out.1 out.2.1 out.2.2) := by
  refine Mv.mk (cc := cX5_begin) (maxL := 4) (own := RX5) (by decide) rfl rfl (Nat.le_of_ble_eq_true rfl) ?_
  intro p e s m args below meth c A Q F hK hP hD hA hret ls hl
  obtain ⟨hx, hb, hml, hown, hts⟩ := id F
  have hS : va_S A s.heap s.heap [] := va_S.rf
  have hl : lv_has ls 4 [(0, .ref aE), (1, .int x1), (2, .int x2)] := hl
  have in_X5 : ∀ w ∈ wsX50, w ∈ wsX5_begin := by decide +kernel
  have q1 := hts (Cond.fieldLink RX5 15 "ThirdFountain$Sheet" "bits" "I") (List.mem_of_getElem? (i := 1) rfl)
  have q2 := hts (Cond.fieldLink RX5 19 "ThirdFountain$Sheet" "size" "I") (List.mem_of_getElem? (i := 2) rfl)
  have q3 := hts (Cond.fieldLink RX5 9 "ThirdFountain$Sheet" "numbers" "[I") (List.mem_of_getElem? (i := 3) rfl)
  unfold f_X5_begin at h
  refine lv_aload_n hx hb dX5_begin_0 rfl (lv_at hl 0 rfl) ?_
  refine lv_iload_n hx hb dX5_begin_1 rfl (lv_at hl 1 rfl) ?_
  refine va_put (D := D) (ci := 4) (v := .int x1) (ty := .int) (C := RX5) (T := TX5) (N := 3) hx hb hts in_X5 tyX5 tyX5_ok nmX5 hown hK hP hD hS 0 rfl rfl 1 (by decide) q1 (fun _ h9 => h9) rfl (by decide +kernel) rfl rfl (Nat.le_of_ble_eq_true rfl) dX5_begin_2 (fun H locs hP hD hS => ?_)
  have hP : va_P D vwCl (w_X5_begin cyI cyJ cyZ cyB cyO aE aE_numbers x1 vE_size cE_numbers) H := hP
  have hD : va_D A (w_X5_begin cyI cyJ cyZ cyB cyO aE aE_numbers x1 vE_size cE_numbers) := hD
  refine lv_aload_n hx hb dX5_begin_5 rfl (lv_at hl 0 rfl) ?_
  refine lv_iload_n hx hb dX5_begin_6 rfl (lv_at hl 2 rfl) ?_
  refine va_put (D := D) (ci := 4) (v := .int x2) (ty := .int) (C := RX5) (T := TX5) (N := 3) hx hb hts in_X5 tyX5 tyX5_ok nmX5 hown hK hP hD hS 0 rfl rfl 2 (by decide) q2 (fun _ h9 => h9) rfl (by decide +kernel) rfl rfl (Nat.le_of_ble_eq_true rfl) dX5_begin_7 (fun H locs hP hD hS => ?_)
  have hP : va_P D vwCl (w_X5_begin cyI cyJ cyZ cyB cyO aE aE_numbers x1 x2 cE_numbers) H := hP
  have hD : va_D A (w_X5_begin cyI cyJ cyZ cyB cyO aE aE_numbers x1 x2 cE_numbers) := hD
  refine lv_iconst (v := 0) hx hb dX5_begin_10 (by decide) ?_
  refine lv_istore_n (lv' := [(3, .int (0 : Int32)), (0, .ref aE), (1, .int x1), (2, .int x2)]) hx hb dX5_begin_11 rfl hl (by decide) rfl (fun ls hl => ?_)
  have lp12 : ∀ (k12 : Nat) (y3 : Int32) (vE_bits : Int32) (vE_size : Int32) (cE_numbers : Nat → Int32) (H : Heap) (locs : List Loc) (ls : Array Slot), va_P D vwCl (w_X5_begin cyI cyJ cyZ cyB cyO aE aE_numbers vE_bits vE_size cE_numbers) H → va_D A (w_X5_begin cyI cyJ cyZ cyB cyO aE aE_numbers vE_bits vE_size cE_numbers) → va_S A s.heap H locs → lv_has ls 4 [(3, .int y3), (0, .ref aE)] → (f_X5_begin_L12 x1 x2 k12) (y3, vE_bits, vE_size, cE_numbers) = some out → W p l e ({ frames := 0, cells := 0, slots := 0, locals := 0 } : Room) s m args below meth c H locs 0 0 Q (F0 m 12 ls []) := by
    intro k12
    induction k12 with
    | zero => intro y3 vE_bits vE_size cE_numbers H locs ls hP hD hS hl h; cases h
    | succ k12 ih12 =>
      intro y3 vE_bits vE_size cE_numbers H locs ls hP hD hS hl h
      have h : f_X5_begin_L12_b x1 x2 (f_X5_begin_L12 x1 x2 k12) y3 vE_bits vE_size cE_numbers = some out := h
      unfold f_X5_begin_L12_b at h
      refine lv_iload_n hx hb dX5_begin_12 rfl (lv_at hl 0 rfl) ?_
      refine lv_bipush (v := 40) hx hb dX5_begin_13 (by decide) ?_
      refine lv_icmp_ge (tgt := 31) hx hb dX5_begin_15 (by decide) (fun c1 => ?_) (fun c1 => ?_)
      · have h := br_pos c1 h
        obtain rfl := Option.some.inj h
        exact hret _ _ _ _ hP hD hS dX5_begin_31 
      · have h := br_neg c1 h
        refine lv_aload_n hx hb dX5_begin_18 rfl (lv_at hl 1 rfl) ?_
        refine va_get (D := D) (ci := 4) (v := .ref aE_numbers) (C := RX5) (T := TX5) (N := 3) hx hb hts in_X5 hown hK hP 0 rfl rfl 0 (by decide) q3 (fun _ h9 => h9) rfl dX5_begin_19 ?_
        refine lv_iload_n hx hb dX5_begin_22 rfl (lv_at hl 0 rfl) ?_
        refine lv_iconst (v := 0) hx hb dX5_begin_23 (by decide) ?_
        obtain ⟨g2, h⟩ := gd_some h
        refine va_iast hx hb hK hP hD hS 1 0 rfl rfl g2 dX5_begin_24 (fun H locs hP hD hS => ?_)
        have hP : va_P D vwCl (w_X5_begin cyI cyJ cyZ cyB cyO aE aE_numbers vE_bits vE_size (upd cE_numbers y3.toNatClampNeg (0 : Int32))) H := hP
        have hD : va_D A (w_X5_begin cyI cyJ cyZ cyB cyO aE aE_numbers vE_bits vE_size (upd cE_numbers y3.toNatClampNeg (0 : Int32))) := hD
        refine lv_iinc (v := y3 + 1) (lv' := [(3, .int (y3 + 1)), (0, .ref aE)]) hx hb dX5_begin_25 hl (k := 0) rfl rfl (by decide) rfl (fun ls hl => ?_)
        refine lv_goto (tgt := 12) hx hb dX5_begin_28 (by decide) ?_
        exact ih12 (y3 + 1) vE_bits vE_size (upd cE_numbers y3.toNatClampNeg (0 : Int32)) _ _ _ hP hD hS (lv_sub hl [0, 1] rfl) h
  exact lp12 FU (0 : Int32) x1 x2 cE_numbers _ _ _ hP hD hS (lv_sub hl [0, 1] rfl) h
/-! ===== X5_lowestBits ===== -/
def w_X5_lowestBits (cyI cyJ cyZ cyB cyO : ClassId) (aE aE_numbers : Nat) (vE_bits : Int32) (vE_size : Int32) : va_W := [(aE, .inr (4, [.ref aE_numbers, .int vE_bits, .int vE_size]))]
set_option maxHeartbeats 4000000 in
set_option maxRecDepth 100000 in
theorem t_X5_lowestBits (l : Launch) (D : va_G) (cyI cyJ cyZ cyB cyO : ClassId) (aE aE_numbers : Nat) (vE_bits : Int32) (vE_size : Int32) (x1 : Int32) (out : Int32) (h : f_X5_lowestBits x1 vE_bits = some out) : Mi l yX5_lowestBits wsX5_lowestBits ({ frames := 0, cells := 0, slots := 0, locals := 0 } : Room) D (tyA cyI cyJ cyZ cyB cyO) [.ref aE, .int x1] (w_X5_lowestBits cyI cyJ cyZ cyB cyO aE aE_numbers vE_bits vE_size) (w_X5_lowestBits cyI cyJ cyZ cyB cyO aE aE_numbers vE_bits vE_size) out := by
  refine Mi.mk (cc := cX5_lowestBits) (maxL := 2) (rt := .int) (own := RX5) (by decide) rfl rfl (Nat.le_of_ble_eq_true rfl) ?_
  intro p e s m args below meth c A Q F hK hP hD hA hret ls hl
  obtain ⟨hx, hb, hml, hown, hts⟩ := id F
  have hS : va_S A s.heap s.heap [] := va_S.rf
  have hl : lv_has ls 2 [(0, .ref aE), (1, .int x1)] := hl
  have in_X5 : ∀ w ∈ wsX50, w ∈ wsX5_lowestBits := by decide +kernel
  have q1 := hts (Cond.fieldLink RX5 15 "ThirdFountain$Sheet" "bits" "I") (List.mem_of_getElem? (i := 1) rfl)
  unfold f_X5_lowestBits at h
  refine lv_aload_n hx hb dX5_lowestBits_0 rfl (lv_at hl 0 rfl) ?_
  refine va_get (D := D) (ci := 4) (v := .int vE_bits) (C := RX5) (T := TX5) (N := 3) hx hb hts in_X5 hown hK hP 0 rfl rfl 1 (by decide) q1 (fun _ h9 => h9) rfl dX5_lowestBits_1 ?_
  by_cases c1 : vE_bits = 8
  · have h := br_pos c1 h
    refine lv_lookup (off := 28) (tgt := 32) hx hb dX5_lowestBits_4 (by decide) (by rw [c1]; rfl) (by decide) ?_
    refine lv_iload_n hx hb dX5_lowestBits_32 rfl (lv_at hl 1 rfl) ?_
    refine lv_i2b hx hb dX5_lowestBits_33 rfl ?_
    obtain rfl := Option.some.inj h
    exact hret _ _ _ _ _ hP hD hS dX5_lowestBits_34 rfl rfl
  have h := br_neg c1 h
  by_cases c2 : vE_bits = 16
  · have h := br_pos c2 h
    refine lv_lookup (off := 31) (tgt := 35) hx hb dX5_lowestBits_4 (by decide) (by rw [c2]; rfl) (by decide) ?_
    refine lv_iload_n hx hb dX5_lowestBits_35 rfl (lv_at hl 1 rfl) ?_
    refine lv_i2s hx hb dX5_lowestBits_36 rfl ?_
    obtain rfl := Option.some.inj h
    exact hret _ _ _ _ _ hP hD hS dX5_lowestBits_37 rfl rfl
  have h := br_neg c2 h
  refine lv_lookup (off := 34) (tgt := 38) hx hb dX5_lowestBits_4 (by decide) (lk_1 c1 (lk_1 c2 lk_0)) (by decide) ?_
  refine lv_iload_n hx hb dX5_lowestBits_38 rfl (lv_at hl 1 rfl) ?_
  obtain rfl := Option.some.inj h
  exact hret _ _ _ _ _ hP hD hS dX5_lowestBits_39 rfl rfl
