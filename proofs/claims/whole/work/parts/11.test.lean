/-! ===== X3_isKind ===== -/
def w_X3_isKind (cyI cyJ cyZ cyB cyO : ClassId) : va_W := []
noncomputable def f_X3_isKind (x0 : Int32) : Option (Int32) :=
  br (x0 < 0)
  (some (0 : Int32))
  (br ((6 : Int32) < x0)
  (some (0 : Int32))
  (some (1 : Int32)))
set_option maxHeartbeats 4000000 in
set_option maxRecDepth 100000 in
theorem t_X3_isKind (l : Launch) (D : va_G) (cyI cyJ cyZ cyB cyO : ClassId) (x0 : Int32) (out : Int32) (h : f_X3_isKind x0 = some out) : Mi l yX3_isKind wsX3_isKind ({ frames := 0, cells := 0, slots := 0, locals := 0 } : Room) D (tyA cyI cyJ cyZ cyB cyO) [.int x0] (w_X3_isKind cyI cyJ cyZ cyB cyO ) (w_X3_isKind cyI cyJ cyZ cyB cyO ) out := by
  refine Mi.mk (cc := cX3_isKind) (maxL := 1) (rt := .boolean) (own := RX3) (by decide) rfl rfl (Nat.le_of_ble_eq_true rfl) ?_
  intro p e s m args below meth c A Q F hK hP hD hA hret ls hl
  obtain ⟨hx, hb, hml, hown, hts⟩ := id F
  have hS : va_S A s.heap s.heap [] := va_S.rf
  have hl : lv_has ls 1 [(0, .int x0)] := hl
  unfold f_X3_isKind at h
  refine lv_iload_n hx hb dX3_isKind_0 rfl (lv_at hl 0 rfl) ?_
  refine lv_if_lt (tgt := 14) hx hb dX3_isKind_1 (by decide) (fun c1 => ?_) (fun c1 => ?_)
  · have h := br_pos c1 h
    refine lv_iconst (v := 0) hx hb dX3_isKind_14 (by decide) ?_
    obtain rfl := Option.some.inj h
    exact hret _ _ _ _ _ hP hD hS dX3_isKind_15 (nz_of (Or.inl rfl)) rfl
  · have h := br_neg c1 h
    refine lv_iload_n hx hb dX3_isKind_4 rfl (lv_at hl 0 rfl) ?_
    refine lv_bipush (v := 6) hx hb dX3_isKind_5 (by decide) ?_
    refine lv_icmp_gt (tgt := 14) hx hb dX3_isKind_7 (by decide) (fun c2 => ?_) (fun c2 => ?_)
    · have h := br_pos c2 h
      refine lv_iconst (v := 0) hx hb dX3_isKind_14 (by decide) ?_
      obtain rfl := Option.some.inj h
      exact hret _ _ _ _ _ hP hD hS dX3_isKind_15 (nz_of (Or.inl rfl)) rfl
    · have h := br_neg c2 h
      refine lv_iconst (v := 1) hx hb dX3_isKind_10 (by decide) ?_
      refine lv_goto (tgt := 15) hx hb dX3_isKind_11 (by decide) ?_
      obtain rfl := Option.some.inj h
      exact hret _ _ _ _ _ hP hD hS dX3_isKind_15 (nz_of (Or.inr rfl)) rfl
/-! ===== X3_tenthsLeaked ===== -/
def w_X3_tenthsLeaked (cyI cyJ cyZ cyB cyO : ClassId) : va_W := []
noncomputable def f_X3_tenthsLeaked (x0 : Int32) : Option (Int32) :=
  br (x0 = 2)
  (some (1 : Int32))
  (br (x0 = 4)
  (some (2 : Int32))
  (some (0 : Int32)))
set_option maxHeartbeats 4000000 in
set_option maxRecDepth 100000 in
theorem t_X3_tenthsLeaked (l : Launch) (D : va_G) (cyI cyJ cyZ cyB cyO : ClassId) (x0 : Int32) (out : Int32) (h : f_X3_tenthsLeaked x0 = some out) : Mi l yX3_tenthsLeaked wsX3_tenthsLeaked ({ frames := 0, cells := 0, slots := 0, locals := 0 } : Room) D (tyA cyI cyJ cyZ cyB cyO) [.int x0] (w_X3_tenthsLeaked cyI cyJ cyZ cyB cyO ) (w_X3_tenthsLeaked cyI cyJ cyZ cyB cyO ) out := by
  refine Mi.mk (cc := cX3_tenthsLeaked) (maxL := 1) (rt := .int) (own := RX3) (by decide) rfl rfl (Nat.le_of_ble_eq_true rfl) ?_
  intro p e s m args below meth c A Q F hK hP hD hA hret ls hl
  obtain ⟨hx, hb, hml, hown, hts⟩ := id F
  have hS : va_S A s.heap s.heap [] := va_S.rf
  have hl : lv_has ls 1 [(0, .int x0)] := hl
  unfold f_X3_tenthsLeaked at h
  refine lv_iload_n hx hb dX3_tenthsLeaked_0 rfl (lv_at hl 0 rfl) ?_
  by_cases c1 : x0 = 2
  · have h := br_pos c1 h
    refine lv_lookup (off := 27) (tgt := 28) hx hb dX3_tenthsLeaked_1 (by decide) (by rw [c1]; rfl) (by decide) ?_
    refine lv_iconst (v := 1) hx hb dX3_tenthsLeaked_28 (by decide) ?_
    obtain rfl := Option.some.inj h
    exact hret _ _ _ _ _ hP hD hS dX3_tenthsLeaked_29 rfl rfl
  have h := br_neg c1 h
  by_cases c2 : x0 = 4
  · have h := br_pos c2 h
    refine lv_lookup (off := 29) (tgt := 30) hx hb dX3_tenthsLeaked_1 (by decide) (by rw [c2]; rfl) (by decide) ?_
    refine lv_iconst (v := 2) hx hb dX3_tenthsLeaked_30 (by decide) ?_
    obtain rfl := Option.some.inj h
    exact hret _ _ _ _ _ hP hD hS dX3_tenthsLeaked_31 rfl rfl
  have h := br_neg c2 h
  refine lv_lookup (off := 31) (tgt := 32) hx hb dX3_tenthsLeaked_1 (by decide) (lk_1 c1 (lk_1 c2 lk_0)) (by decide) ?_
  refine lv_iconst (v := 0) hx hb dX3_tenthsLeaked_32 (by decide) ?_
  obtain rfl := Option.some.inj h
  exact hret _ _ _ _ _ hP hD hS dX3_tenthsLeaked_33 rfl rfl
/-! ===== X3_leaks ===== -/
def w_X3_leaks (cyI cyJ cyZ cyB cyO : ClassId) : va_W := []
noncomputable def f_X3_leaks (x0 : Int32) (x1 : Int32) : Option (Int32) :=
  bd (f_X3_tenthsLeaked x0) fun u1 =>
  some (u1 * (x1 / (10 : Int32)))
set_option maxHeartbeats 4000000 in
set_option maxRecDepth 100000 in
theorem t_X3_leaks (l : Launch) (D : va_G) (cyI cyJ cyZ cyB cyO : ClassId) (x0 : Int32) (x1 : Int32) (out : Int32) (h : f_X3_leaks x0 x1 = some out) : Mi l yX3_leaks wsX3_leaks ({ frames := 1, cells := 0, slots := 0, locals := 20 } : Room) D (tyA cyI cyJ cyZ cyB cyO) [.int x0, .int x1] (w_X3_leaks cyI cyJ cyZ cyB cyO ) (w_X3_leaks cyI cyJ cyZ cyB cyO ) out := by
  refine Mi.mk (cc := cX3_leaks) (maxL := 2) (rt := .int) (own := RX3) (by decide) rfl rfl (Nat.le_of_ble_eq_true rfl) ?_
  intro p e s m args below meth c A Q F hK hP hD hA hret ls hl
  obtain ⟨hx, hb, hml, hown, hts⟩ := id F
  have hS : va_S A s.heap s.heap [] := va_S.rf
  have hl : lv_has ls 2 [(0, .int x0), (1, .int x1)] := hl
  have q1 := hts (Cond.methodLink RX3 15 yX3_tenthsLeaked) (List.mem_of_getElem? (i := 1) rfl)
  unfold f_X3_leaks at h
  refine lv_iload_n hx hb dX3_leaks_0 rfl (lv_at hl 0 rfl) ?_
  obtain ⟨u1, hu1, h⟩ := bd_some h
  refine cl_Si (rest := []) F hK hP hD hS hA hl (t_X3_tenthsLeaked l D cyI cyJ cyZ cyB cyO x0 u1 hu1) (va_cwS 1 hts gX3_leaks_X3_tenthsLeaked rfl rfl rfl (by decide +kernel) ⟨Nat.le_of_ble_eq_true rfl, Nat.le_of_ble_eq_true rfl⟩) [] [] [] (w_X3_leaks cyI cyJ cyZ cyB cyO ) rfl rfl rfl (by decide) rfl rfl (Nat.le_of_ble_eq_true rfl) ⟨Nat.zero_le _, Nat.zero_le _⟩ dX3_leaks_1 (fun H locs hP hD hS => ?_)
  refine lv_iload_n hx hb dX3_leaks_4 rfl (lv_at hl 1 rfl) ?_
  refine lv_bipush (v := 10) hx hb dX3_leaks_5 (by decide) ?_
  refine lv_idiv hx hb dX3_leaks_7 (by decide) ?_
  refine lv_imul hx hb dX3_leaks_8 ?_
  obtain rfl := Option.some.inj h
  exact hret _ _ _ _ _ hP hD hS dX3_leaks_9 rfl rfl
/-! ===== X3_keeps ===== -/
def w_X3_keeps (cyI cyJ cyZ cyB cyO : ClassId) : va_W := []
noncomputable def f_X3_keeps (x0 : Int32) (x1 : Int32) : Option (Int32) :=
  br (x0 = 1)
  (some (((2 : Int32) * x1) / (5 : Int32)))
  (br (x0 = 3)
  (some (0 : Int32))
  (some (x1 / (3 : Int32))))
set_option maxHeartbeats 4000000 in
set_option maxRecDepth 100000 in
theorem t_X3_keeps (l : Launch) (D : va_G) (cyI cyJ cyZ cyB cyO : ClassId) (x0 : Int32) (x1 : Int32) (out : Int32) (h : f_X3_keeps x0 x1 = some out) : Mi l yX3_keeps wsX3_keeps ({ frames := 0, cells := 0, slots := 0, locals := 0 } : Room) D (tyA cyI cyJ cyZ cyB cyO) [.int x0, .int x1] (w_X3_keeps cyI cyJ cyZ cyB cyO ) (w_X3_keeps cyI cyJ cyZ cyB cyO ) out := by
  refine Mi.mk (cc := cX3_keeps) (maxL := 2) (rt := .int) (own := RX3) (by decide) rfl rfl (Nat.le_of_ble_eq_true rfl) ?_
  intro p e s m args below meth c A Q F hK hP hD hA hret ls hl
  obtain ⟨hx, hb, hml, hown, hts⟩ := id F
  have hS : va_S A s.heap s.heap [] := va_S.rf
  have hl : lv_has ls 2 [(0, .int x0), (1, .int x1)] := hl
  unfold f_X3_keeps at h
  refine lv_iload_n hx hb dX3_keeps_0 rfl (lv_at hl 0 rfl) ?_
  by_cases c1 : x0 = 1
  · have h := br_pos c1 h
    refine lv_lookup (off := 27) (tgt := 28) hx hb dX3_keeps_1 (by decide) (by rw [c1]; rfl) (by decide) ?_
    refine lv_iconst (v := 2) hx hb dX3_keeps_28 (by decide) ?_
    refine lv_iload_n hx hb dX3_keeps_29 rfl (lv_at hl 1 rfl) ?_
    refine lv_imul hx hb dX3_keeps_30 ?_
    refine lv_iconst (v := 5) hx hb dX3_keeps_31 (by decide) ?_
    refine lv_idiv hx hb dX3_keeps_32 (by decide) ?_
    obtain rfl := Option.some.inj h
    exact hret _ _ _ _ _ hP hD hS dX3_keeps_33 rfl rfl
  have h := br_neg c1 h
  by_cases c2 : x0 = 3
  · have h := br_pos c2 h
    refine lv_lookup (off := 33) (tgt := 34) hx hb dX3_keeps_1 (by decide) (by rw [c2]; rfl) (by decide) ?_
    refine lv_iconst (v := 0) hx hb dX3_keeps_34 (by decide) ?_
    obtain rfl := Option.some.inj h
    exact hret _ _ _ _ _ hP hD hS dX3_keeps_35 rfl rfl
  have h := br_neg c2 h
  refine lv_lookup (off := 35) (tgt := 36) hx hb dX3_keeps_1 (by decide) (lk_1 c1 (lk_1 c2 lk_0)) (by decide) ?_
  refine lv_iload_n hx hb dX3_keeps_36 rfl (lv_at hl 1 rfl) ?_
  refine lv_iconst (v := 3) hx hb dX3_keeps_37 (by decide) ?_
  refine lv_idiv hx hb dX3_keeps_38 (by decide) ?_
  obtain rfl := Option.some.inj h
  exact hret _ _ _ _ _ hP hD hS dX3_keeps_39 rfl rfl
/-! ===== X3_holds ===== -/
def w_X3_holds (cyI cyJ cyZ cyB cyO : ClassId) : va_W := []
noncomputable def f_X3_holds (x0 : Int32) (x1 : Int32) (x2 : Int32) : Option (Int32) :=
  br (x0 = 5)
  (some (if x1 < ((30 : Int32) - x2) then x1 else ((30 : Int32) - x2)))
  (br (x0 = 6)
  (br (x1 ≤ (100 : Int32))
  (some (if x1 < ((30 : Int32) - x2) then x1 else ((30 : Int32) - x2)))
  (some (0 : Int32)))
  (some (0 : Int32)))
set_option maxHeartbeats 4000000 in
set_option maxRecDepth 100000 in
theorem t_X3_holds (l : Launch) (D : va_G) (cyI cyJ cyZ cyB cyO : ClassId) (x0 : Int32) (x1 : Int32) (x2 : Int32) (out : Int32) (h : f_X3_holds x0 x1 x2 = some out) : Mi l yX3_holds wsX3_holds ({ frames := 1, cells := 0, slots := 0, locals := 21 } : Room) D (tyA cyI cyJ cyZ cyB cyO) [.int x0, .int x1, .int x2] (w_X3_holds cyI cyJ cyZ cyB cyO ) (w_X3_holds cyI cyJ cyZ cyB cyO ) out := by
  refine Mi.mk (cc := cX3_holds) (maxL := 3) (rt := .int) (own := RX3) (by decide) rfl rfl (Nat.le_of_ble_eq_true rfl) ?_
  intro p e s m args below meth c A Q F hK hP hD hA hret ls hl
  obtain ⟨hx, hb, hml, hown, hts⟩ := id F
  have hS : va_S A s.heap s.heap [] := va_S.rf
  have hl : lv_has ls 3 [(0, .int x0), (1, .int x1), (2, .int x2)] := hl
  have q1 := hts (Cond.methodLink RX3 18 Lib.Math.min.name) (List.mem_of_getElem? (i := 1) rfl)
  have q2 := hts (Cond.static Lib.Math.min.name) (List.mem_of_getElem? (i := 2) rfl)
  have q3 := hts (Cond.initialized "java/lang/Math") (List.mem_of_getElem? (i := 3) rfl)
  have q4 := hts (Cond.code Lib.Math.min.name Lib.Math.min.code 2 (some .int)) (List.mem_of_getElem? (i := 4) rfl)
  unfold f_X3_holds at h
  refine lv_iload_n hx hb dX3_holds_0 rfl (lv_at hl 0 rfl) ?_
  by_cases c1 : x0 = 5
  · have h := br_pos c1 h
    refine lv_lookup (off := 46) (tgt := 47) hx hb dX3_holds_1 (by decide) (by rw [c1]; rfl) (by decide) ?_
    refine lv_bipush (v := 30) hx hb dX3_holds_47 (by decide) ?_
    refine lv_iload_n hx hb dX3_holds_49 rfl (lv_at hl 2 rfl) ?_
    refine lv_isub hx hb dX3_holds_50 ?_
    refine lv_iload_n hx hb dX3_holds_51 rfl (lv_at hl 1 rfl) ?_
    refine va_mmin hx hb (hml.trans hl.1.symm) hown q1 q2 q3 q4 (Nat.le_of_ble_eq_true rfl) (Nat.le_of_ble_eq_true rfl) (Nat.le_refl 0) (Nat.le_refl 0) dX3_holds_52 ?_
    obtain rfl := Option.some.inj h
    exact hret _ _ _ _ _ hP hD hS dX3_holds_55 rfl rfl
  have h := br_neg c1 h
  by_cases c2 : x0 = 6
  · have h := br_pos c2 h
    refine lv_lookup (off := 27) (tgt := 28) hx hb dX3_holds_1 (by decide) (by rw [c2]; rfl) (by decide) ?_
    refine lv_iload_n hx hb dX3_holds_28 rfl (lv_at hl 1 rfl) ?_
    refine lv_bipush (v := 100) hx hb dX3_holds_29 (by decide) ?_
    refine lv_icmp_le (tgt := 38) hx hb dX3_holds_31 (by decide) (fun c3 => ?_) (fun c3 => ?_)
    · have h := br_pos c3 h
      refine lv_bipush (v := 30) hx hb dX3_holds_38 (by decide) ?_
      refine lv_iload_n hx hb dX3_holds_40 rfl (lv_at hl 2 rfl) ?_
      refine lv_isub hx hb dX3_holds_41 ?_
      refine lv_iload_n hx hb dX3_holds_42 rfl (lv_at hl 1 rfl) ?_
      refine va_mmin hx hb (hml.trans hl.1.symm) hown q1 q2 q3 q4 (Nat.le_of_ble_eq_true rfl) (Nat.le_of_ble_eq_true rfl) (Nat.le_refl 0) (Nat.le_refl 0) dX3_holds_43 ?_
      obtain rfl := Option.some.inj h
      exact hret _ _ _ _ _ hP hD hS dX3_holds_46 rfl rfl
    · have h := br_neg c3 h
      refine lv_iconst (v := 0) hx hb dX3_holds_34 (by decide) ?_
      refine lv_goto (tgt := 46) hx hb dX3_holds_35 (by decide) ?_
      obtain rfl := Option.some.inj h
      exact hret _ _ _ _ _ hP hD hS dX3_holds_46 rfl rfl
  have h := br_neg c2 h
  refine lv_lookup (off := 55) (tgt := 56) hx hb dX3_holds_1 (by decide) (lk_1 c1 (lk_1 c2 lk_0)) (by decide) ?_
  refine lv_iconst (v := 0) hx hb dX3_holds_56 (by decide) ?_
  obtain rfl := Option.some.inj h
  exact hret _ _ _ _ _ hP hD hS dX3_holds_57 rfl rfl
/-! ===== X2_aboveOf ===== -/
def w_X2_aboveOf (cyI cyJ cyZ cyB cyO : ClassId) (aF aF_above aF_kind aF_edge aF_pool aF_store aF_spot : Nat) (vF_basins : Int32) (vF_spring : Int32) (vF_hour : Int32) (vF_z : Int32) (cF_above : Nat → Int32) : va_W := [(aF, .inr (2, [.ref aF_kind, .ref aF_above, .ref aF_edge, .ref aF_pool, .ref aF_store, .ref aF_spot, .int vF_basins, .int vF_spring, .int vF_hour, .int vF_z])), (aF_above, .inl (cyI, 10, .inl cF_above))]
noncomputable def f_X2_aboveOf (x1 : Int32) (vF_basins : Int32) (cF_above : Nat → Int32) : Option (Int32) :=
  br (x1 < 0)
  (some (-1 : Int32))
  (br (vF_basins ≤ x1)
  (some (-1 : Int32))
  (gd (vp_in x1 10) (some (cF_above x1.toNatClampNeg))))
set_option maxHeartbeats 4000000 in
set_option maxRecDepth 100000 in
theorem t_X2_aboveOf (l : Launch) (D : va_G) (cyI cyJ cyZ cyB cyO : ClassId) (aF aF_above aF_kind aF_edge aF_pool aF_store aF_spot : Nat) (vF_basins : Int32) (vF_spring : Int32) (vF_hour : Int32) (vF_z : Int32) (cF_above : Nat → Int32) (x1 : Int32) (out : Int32) (h : f_X2_aboveOf x1 vF_basins cF_above = some out) : Mi l yX2_aboveOf wsX2_aboveOf ({ frames := 0, cells := 0, slots := 0, locals := 0 } : Room) D (tyA cyI cyJ cyZ cyB cyO) [.ref aF, .int x1] (w_X2_aboveOf cyI cyJ cyZ cyB cyO aF aF_above aF_kind aF_edge aF_pool aF_store aF_spot vF_basins vF_spring vF_hour vF_z cF_above) (w_X2_aboveOf cyI cyJ cyZ cyB cyO aF aF_above aF_kind aF_edge aF_pool aF_store aF_spot vF_basins vF_spring vF_hour vF_z cF_above) out := by
  refine Mi.mk (cc := cX2_aboveOf) (maxL := 2) (rt := .int) (own := RX2) (by decide) rfl rfl (Nat.le_of_ble_eq_true rfl) ?_
  intro p e s m args below meth c A Q F hK hP hD hA hret ls hl
  obtain ⟨hx, hb, hml, hown, hts⟩ := id F
  have hS : va_S A s.heap s.heap [] := va_S.rf
  have hl : lv_has ls 2 [(0, .ref aF), (1, .int x1)] := hl
  have in_X2 : ∀ w ∈ wsX20, w ∈ wsX2_aboveOf := by decide +kernel
  have q1 := hts (Cond.fieldLink RX2 43 "ThirdFountain$Fountain" "basins" "I") (List.mem_of_getElem? (i := 1) rfl)
  have q2 := hts (Cond.fieldLink RX2 15 "ThirdFountain$Fountain" "above" "[I") (List.mem_of_getElem? (i := 2) rfl)
  unfold f_X2_aboveOf at h
  refine lv_iload_n hx hb dX2_aboveOf_0 rfl (lv_at hl 1 rfl) ?_
  refine lv_if_lt (tgt := 21) hx hb dX2_aboveOf_1 (by decide) (fun c1 => ?_) (fun c1 => ?_)
  · have h := br_pos c1 h
    refine lv_iconst (v := -1) hx hb dX2_aboveOf_21 (by decide) ?_
    obtain rfl := Option.some.inj h
    exact hret _ _ _ _ _ hP hD hS dX2_aboveOf_22 rfl rfl
  · have h := br_neg c1 h
    refine lv_iload_n hx hb dX2_aboveOf_4 rfl (lv_at hl 1 rfl) ?_
    refine lv_aload_n hx hb dX2_aboveOf_5 rfl (lv_at hl 0 rfl) ?_
    refine va_get (D := D) (ci := 2) (v := .int vF_basins) (C := RX2) (T := TX2) (N := 10) hx hb hts in_X2 hown hK hP 0 rfl rfl 6 (by decide) q1 (fun _ h9 => h9) rfl dX2_aboveOf_6 ?_
    refine lv_icmp_ge (tgt := 21) hx hb dX2_aboveOf_9 (by decide) (fun c2 => ?_) (fun c2 => ?_)
    · have h := br_pos c2 h
      refine lv_iconst (v := -1) hx hb dX2_aboveOf_21 (by decide) ?_
      obtain rfl := Option.some.inj h
      exact hret _ _ _ _ _ hP hD hS dX2_aboveOf_22 rfl rfl
    · have h := br_neg c2 h
      refine lv_aload_n hx hb dX2_aboveOf_12 rfl (lv_at hl 0 rfl) ?_
      refine va_get (D := D) (ci := 2) (v := .ref aF_above) (C := RX2) (T := TX2) (N := 10) hx hb hts in_X2 hown hK hP 0 rfl rfl 1 (by decide) q2 (fun _ h9 => h9) rfl dX2_aboveOf_13 ?_
      refine lv_iload_n hx hb dX2_aboveOf_16 rfl (lv_at hl 1 rfl) ?_
      obtain ⟨g3, h⟩ := gd_some h
      refine va_iald hx hb hK hP 1 0 rfl rfl g3 dX2_aboveOf_17 ?_
      refine lv_goto (tgt := 22) hx hb dX2_aboveOf_18 (by decide) ?_
      obtain rfl := Option.some.inj h
      exact hret _ _ _ _ _ hP hD hS dX2_aboveOf_22 rfl rfl
/-! ===== X2_widthUnder ===== -/
def w_X2_widthUnder (cyI cyJ cyZ cyB cyO : ClassId) (aF aF_above aF_edge aF_kind aF_pool aF_store aF_spot : Nat) (vF_basins : Int32) (vF_spring : Int32) (vF_hour : Int32) (vF_z : Int32) (cF_above : Nat → Int32) (cF_edge : Nat → Int32) : va_W := [(aF, .inr (2, [.ref aF_kind, .ref aF_above, .ref aF_edge, .ref aF_pool, .ref aF_store, .ref aF_spot, .int vF_basins, .int vF_spring, .int vF_hour, .int vF_z])), (aF_above, .inl (cyI, 10, .inl cF_above)), (aF_edge, .inl (cyI, 10, .inl cF_edge))]
noncomputable def f_X2_widthUnder_L4_b (x1 : Int32) (vF_basins : Int32) (cF_above : Nat → Int32) (cF_edge : Nat → Int32) (rc4 : (Int32 × Int32) → Option (Int32)) (y2 : Int32) (y3 : Int32) : Option (Int32) :=
  br (vF_basins ≤ y3)
  (some y2)
  (gd (vp_in y3 10) (br ((cF_above y3.toNatClampNeg) = x1)
  (gd (vp_in y3 10) (nm (y2 + (cF_edge y3.toNatClampNeg)) fun z5 =>
  rc4 (z5, (y3 + 1))))
  (rc4 (y2, (y3 + 1)))))
noncomputable def f_X2_widthUnder_L4 (x1 : Int32) (vF_basins : Int32) (cF_above : Nat → Int32) (cF_edge : Nat → Int32) (k : Nat) : (Int32 × Int32) → Option (Int32) := lp (fun rc v => f_X2_widthUnder_L4_b x1 vF_basins cF_above cF_edge rc v.1 v.2) k
theorem f_X2_widthUnder_L4_s (x1 : Int32) (vF_basins : Int32) (cF_above : Nat → Int32) (cF_edge : Nat → Int32) (k : Nat) (y2 : Int32) (y3 : Int32) : f_X2_widthUnder_L4 x1 vF_basins cF_above cF_edge (k + 1) (y2, y3) = f_X2_widthUnder_L4_b x1 vF_basins cF_above cF_edge (f_X2_widthUnder_L4 x1 vF_basins cF_above cF_edge k) y2 y3 := rfl
theorem f_X2_widthUnder_L4_0 (x1 : Int32) (vF_basins : Int32) (cF_above : Nat → Int32) (cF_edge : Nat → Int32) (v : Int32 × Int32) : f_X2_widthUnder_L4 x1 vF_basins cF_above cF_edge 0 v = none := rfl
noncomputable def f_X2_widthUnder (x1 : Int32) (vF_basins : Int32) (cF_above : Nat → Int32) (cF_edge : Nat → Int32) : Option (Int32) :=
  f_X2_widthUnder_L4 x1 vF_basins cF_above cF_edge FU ((0 : Int32), (0 : Int32))
set_option maxHeartbeats 4000000 in
set_option maxRecDepth 100000 in
theorem t_X2_widthUnder (l : Launch) (D : va_G) (cyI cyJ cyZ cyB cyO : ClassId) (aF aF_above aF_edge aF_kind aF_pool aF_store aF_spot : Nat) (vF_basins : Int32) (vF_spring : Int32) (vF_hour : Int32) (vF_z : Int32) (cF_above : Nat → Int32) (cF_edge : Nat → Int32) (x1 : Int32) (out : Int32) (h : f_X2_widthUnder x1 vF_basins cF_above cF_edge = some out) : Mi l yX2_widthUnder wsX2_widthUnder ({ frames := 0, cells := 0, slots := 0, locals := 0 } : Room) D (tyA cyI cyJ cyZ cyB cyO) [.ref aF, .int x1] (w_X2_widthUnder cyI cyJ cyZ cyB cyO aF aF_above aF_edge aF_kind aF_pool aF_store aF_spot vF_basins vF_spring vF_hour vF_z cF_above cF_edge) (w_X2_widthUnder cyI cyJ cyZ cyB cyO aF aF_above aF_edge aF_kind aF_pool aF_store aF_spot vF_basins vF_spring vF_hour vF_z cF_above cF_edge) out := by
  refine Mi.mk (cc := cX2_widthUnder) (maxL := 4) (rt := .int) (own := RX2) (by decide) rfl rfl (Nat.le_of_ble_eq_true rfl) ?_
  intro p e s m args below meth c A Q F hK hP hD hA hret ls hl
  obtain ⟨hx, hb, hml, hown, hts⟩ := id F
  have hS : va_S A s.heap s.heap [] := va_S.rf
  have hl : lv_has ls 4 [(0, .ref aF), (1, .int x1)] := hl
  have in_X2 : ∀ w ∈ wsX20, w ∈ wsX2_widthUnder := by decide +kernel
  have q1 := hts (Cond.fieldLink RX2 43 "ThirdFountain$Fountain" "basins" "I") (List.mem_of_getElem? (i := 1) rfl)
  have q2 := hts (Cond.fieldLink RX2 15 "ThirdFountain$Fountain" "above" "[I") (List.mem_of_getElem? (i := 2) rfl)
  have q3 := hts (Cond.fieldLink RX2 18 "ThirdFountain$Fountain" "edge" "[I") (List.mem_of_getElem? (i := 3) rfl)
  unfold f_X2_widthUnder at h
  refine lv_iconst (v := 0) hx hb dX2_widthUnder_0 (by decide) ?_
  refine lv_istore_n (lv' := [(2, .int (0 : Int32)), (0, .ref aF), (1, .int x1)]) hx hb dX2_widthUnder_1 rfl hl (by decide) rfl (fun ls hl => ?_)
  refine lv_iconst (v := 0) hx hb dX2_widthUnder_2 (by decide) ?_
  refine lv_istore_n (lv' := [(3, .int (0 : Int32)), (2, .int (0 : Int32)), (0, .ref aF), (1, .int x1)]) hx hb dX2_widthUnder_3 rfl hl (by decide) rfl (fun ls hl => ?_)
  have lp4 : ∀ (k4 : Nat) (y2 : Int32) (y3 : Int32) (H : Heap) (locs : List Loc) (ls : Array Slot), va_P D vwCl (w_X2_widthUnder cyI cyJ cyZ cyB cyO aF aF_above aF_edge aF_kind aF_pool aF_store aF_spot vF_basins vF_spring vF_hour vF_z cF_above cF_edge) H → va_D A (w_X2_widthUnder cyI cyJ cyZ cyB cyO aF aF_above aF_edge aF_kind aF_pool aF_store aF_spot vF_basins vF_spring vF_hour vF_z cF_above cF_edge) → va_S A s.heap H locs → lv_has ls 4 [(2, .int y2), (3, .int y3), (0, .ref aF), (1, .int x1)] → (f_X2_widthUnder_L4 x1 vF_basins cF_above cF_edge k4) (y2, y3) = some out → W p l e ({ frames := 0, cells := 0, slots := 0, locals := 0 } : Room) s m args below meth c H locs 0 0 Q (F0 m 4 ls []) := by
    intro k4
    induction k4 with
    | zero => intro y2 y3 H locs ls hP hD hS hl h; cases h
    | succ k4 ih4 =>
      intro y2 y3 H locs ls hP hD hS hl h
      have h : f_X2_widthUnder_L4_b x1 vF_basins cF_above cF_edge (f_X2_widthUnder_L4 x1 vF_basins cF_above cF_edge k4) y2 y3 = some out := h
      unfold f_X2_widthUnder_L4_b at h
      refine lv_iload_n hx hb dX2_widthUnder_4 rfl (lv_at hl 1 rfl) ?_
      refine lv_aload_n hx hb dX2_widthUnder_5 rfl (lv_at hl 2 rfl) ?_
      refine va_get (D := D) (ci := 2) (v := .int vF_basins) (C := RX2) (T := TX2) (N := 10) hx hb hts in_X2 hown hK hP 0 rfl rfl 6 (by decide) q1 (fun _ h9 => h9) rfl dX2_widthUnder_6 ?_
      refine lv_icmp_ge (tgt := 37) hx hb dX2_widthUnder_9 (by decide) (fun c1 => ?_) (fun c1 => ?_)
      · have h := br_pos c1 h
        refine lv_iload_n hx hb dX2_widthUnder_37 rfl (lv_at hl 0 rfl) ?_
        obtain rfl := Option.some.inj h
        exact hret _ _ _ _ _ hP hD hS dX2_widthUnder_38 rfl rfl
      · have h := br_neg c1 h
        refine lv_aload_n hx hb dX2_widthUnder_12 rfl (lv_at hl 2 rfl) ?_
        refine va_get (D := D) (ci := 2) (v := .ref aF_above) (C := RX2) (T := TX2) (N := 10) hx hb hts in_X2 hown hK hP 0 rfl rfl 1 (by decide) q2 (fun _ h9 => h9) rfl dX2_widthUnder_13 ?_
        refine lv_iload_n hx hb dX2_widthUnder_16 rfl (lv_at hl 1 rfl) ?_
        obtain ⟨g2, h⟩ := gd_some h
        refine va_iald hx hb hK hP 1 0 rfl rfl g2 dX2_widthUnder_17 ?_
        refine lv_iload_n hx hb dX2_widthUnder_18 rfl (lv_at hl 3 rfl) ?_
        refine lv_icmp_ne (tgt := 31) hx hb dX2_widthUnder_19 (by decide) (fun c3 => ?_) (fun c3 => ?_)
        · have h := br_neg c3 h
          refine lv_iinc (v := y3 + 1) (lv' := [(3, .int (y3 + 1)), (2, .int y2), (0, .ref aF), (1, .int x1)]) hx hb dX2_widthUnder_31 hl (k := 1) rfl rfl (by decide) rfl (fun ls hl => ?_)
          refine lv_goto (tgt := 4) hx hb dX2_widthUnder_34 (by decide) ?_
          exact ih4 y2 (y3 + 1) _ _ _ hP hD hS (lv_sub hl [1, 0, 2, 3] rfl) h
        · have h := br_pos c3 h
          refine lv_iload_n hx hb dX2_widthUnder_22 rfl (lv_at hl 0 rfl) ?_
          refine lv_aload_n hx hb dX2_widthUnder_23 rfl (lv_at hl 2 rfl) ?_
          refine va_get (D := D) (ci := 2) (v := .ref aF_edge) (C := RX2) (T := TX2) (N := 10) hx hb hts in_X2 hown hK hP 0 rfl rfl 2 (by decide) q3 (fun _ h9 => h9) rfl dX2_widthUnder_24 ?_
          refine lv_iload_n hx hb dX2_widthUnder_27 rfl (lv_at hl 1 rfl) ?_
          obtain ⟨g4, h⟩ := gd_some h
          refine va_iald hx hb hK hP 2 0 rfl rfl g4 dX2_widthUnder_28 ?_
          refine lv_iadd hx hb dX2_widthUnder_29 ?_
          refine lv_topi (fun z5 ez5 => ?_)
          have h := nm_at ez5 h
          refine lv_istore_n (lv' := [(2, .int z5), (3, .int y3), (0, .ref aF), (1, .int x1)]) hx hb dX2_widthUnder_30 rfl hl (by decide) rfl (fun ls hl => ?_)
          refine lv_iinc (v := y3 + 1) (lv' := [(3, .int (y3 + 1)), (2, .int z5), (0, .ref aF), (1, .int x1)]) hx hb dX2_widthUnder_31 hl (k := 1) rfl rfl (by decide) rfl (fun ls hl => ?_)
          refine lv_goto (tgt := 4) hx hb dX2_widthUnder_34 (by decide) ?_
          exact ih4 z5 (y3 + 1) _ _ _ hP hD hS (lv_sub hl [1, 0, 2, 3] rfl) h
  exact lp4 FU (0 : Int32) (0 : Int32) _ _ _ hP hD hS (lv_sub hl [1, 0, 2, 3] rfl) h
/-! ===== X2_sum ===== -/
def w_X2_sum (cyI cyJ cyZ cyB cyO : ClassId) (ar1 aF aF_kind aF_above aF_edge aF_pool aF_store aF_spot : Nat) (cr1 : Nat → Int32) (vF_basins : Int32) (vF_spring : Int32) (vF_hour : Int32) (vF_z : Int32) : va_W := [(ar1, .inl (cyI, 10, .inl cr1)), (aF, .inr (2, [.ref aF_kind, .ref aF_above, .ref aF_edge, .ref aF_pool, .ref aF_store, .ref aF_spot, .int vF_basins, .int vF_spring, .int vF_hour, .int vF_z]))]
noncomputable def f_X2_sum_L4_b (cr1 : Nat → Int32) (vF_basins : Int32) (rc4 : (Int32 × Int32) → Option (Int32)) (y2 : Int32) (y3 : Int32) : Option (Int32) :=
  br (vF_basins ≤ y3)
  (some y2)
  (gd (vp_in y3 10) (nm (y2 + (cr1 y3.toNatClampNeg)) fun z3 =>
  rc4 (z3, (y3 + 1))))
noncomputable def f_X2_sum_L4 (cr1 : Nat → Int32) (vF_basins : Int32) (k : Nat) : (Int32 × Int32) → Option (Int32) := lp (fun rc v => f_X2_sum_L4_b cr1 vF_basins rc v.1 v.2) k
theorem f_X2_sum_L4_s (cr1 : Nat → Int32) (vF_basins : Int32) (k : Nat) (y2 : Int32) (y3 : Int32) : f_X2_sum_L4 cr1 vF_basins (k + 1) (y2, y3) = f_X2_sum_L4_b cr1 vF_basins (f_X2_sum_L4 cr1 vF_basins k) y2 y3 := rfl
theorem f_X2_sum_L4_0 (cr1 : Nat → Int32) (vF_basins : Int32) (v : Int32 × Int32) : f_X2_sum_L4 cr1 vF_basins 0 v = none := rfl
noncomputable def f_X2_sum (cr1 : Nat → Int32) (vF_basins : Int32) : Option (Int32) :=
  f_X2_sum_L4 cr1 vF_basins FU ((0 : Int32), (0 : Int32))
set_option maxHeartbeats 4000000 in
set_option maxRecDepth 100000 in
theorem t_X2_sum (l : Launch) (D : va_G) (cyI cyJ cyZ cyB cyO : ClassId) (ar1 aF aF_kind aF_above aF_edge aF_pool aF_store aF_spot : Nat) (cr1 : Nat → Int32) (vF_basins : Int32) (vF_spring : Int32) (vF_hour : Int32) (vF_z : Int32) (out : Int32) (h : f_X2_sum cr1 vF_basins = some out) : Mi l yX2_sum wsX2_sum ({ frames := 0, cells := 0, slots := 0, locals := 0 } : Room) D (tyA cyI cyJ cyZ cyB cyO) [.ref aF, .ref ar1] (w_X2_sum cyI cyJ cyZ cyB cyO ar1 aF aF_kind aF_above aF_edge aF_pool aF_store aF_spot cr1 vF_basins vF_spring vF_hour vF_z) (w_X2_sum cyI cyJ cyZ cyB cyO ar1 aF aF_kind aF_above aF_edge aF_pool aF_store aF_spot cr1 vF_basins vF_spring vF_hour vF_z) out := by
  refine Mi.mk (cc := cX2_sum) (maxL := 4) (rt := .int) (own := RX2) (by decide) rfl rfl (Nat.le_of_ble_eq_true rfl) ?_
  intro p e s m args below meth c A Q F hK hP hD hA hret ls hl
  obtain ⟨hx, hb, hml, hown, hts⟩ := id F
  have hS : va_S A s.heap s.heap [] := va_S.rf
  have hl : lv_has ls 4 [(0, .ref aF), (1, .ref ar1)] := hl
  have in_X2 : ∀ w ∈ wsX20, w ∈ wsX2_sum := by decide +kernel
  have q1 := hts (Cond.fieldLink RX2 43 "ThirdFountain$Fountain" "basins" "I") (List.mem_of_getElem? (i := 1) rfl)
  unfold f_X2_sum at h
  refine lv_iconst (v := 0) hx hb dX2_sum_0 (by decide) ?_
  refine lv_istore_n (lv' := [(2, .int (0 : Int32)), (0, .ref aF), (1, .ref ar1)]) hx hb dX2_sum_1 rfl hl (by decide) rfl (fun ls hl => ?_)
  refine lv_iconst (v := 0) hx hb dX2_sum_2 (by decide) ?_
  refine lv_istore_n (lv' := [(3, .int (0 : Int32)), (2, .int (0 : Int32)), (0, .ref aF), (1, .ref ar1)]) hx hb dX2_sum_3 rfl hl (by decide) rfl (fun ls hl => ?_)
  have lp4 : ∀ (k4 : Nat) (y2 : Int32) (y3 : Int32) (H : Heap) (locs : List Loc) (ls : Array Slot), va_P D vwCl (w_X2_sum cyI cyJ cyZ cyB cyO ar1 aF aF_kind aF_above aF_edge aF_pool aF_store aF_spot cr1 vF_basins vF_spring vF_hour vF_z) H → va_D A (w_X2_sum cyI cyJ cyZ cyB cyO ar1 aF aF_kind aF_above aF_edge aF_pool aF_store aF_spot cr1 vF_basins vF_spring vF_hour vF_z) → va_S A s.heap H locs → lv_has ls 4 [(2, .int y2), (3, .int y3), (0, .ref aF), (1, .ref ar1)] → (f_X2_sum_L4 cr1 vF_basins k4) (y2, y3) = some out → W p l e ({ frames := 0, cells := 0, slots := 0, locals := 0 } : Room) s m args below meth c H locs 0 0 Q (F0 m 4 ls []) := by
    intro k4
    induction k4 with
    | zero => intro y2 y3 H locs ls hP hD hS hl h; cases h
    | succ k4 ih4 =>
      intro y2 y3 H locs ls hP hD hS hl h
      have h : f_X2_sum_L4_b cr1 vF_basins (f_X2_sum_L4 cr1 vF_basins k4) y2 y3 = some out := h
      unfold f_X2_sum_L4_b at h
      refine lv_iload_n hx hb dX2_sum_4 rfl (lv_at hl 1 rfl) ?_
      refine lv_aload_n hx hb dX2_sum_5 rfl (lv_at hl 2 rfl) ?_
      refine va_get (D := D) (ci := 2) (v := .int vF_basins) (C := RX2) (T := TX2) (N := 10) hx hb hts in_X2 hown hK hP 1 rfl rfl 6 (by decide) q1 (fun _ h9 => h9) rfl dX2_sum_6 ?_
      refine lv_icmp_ge (tgt := 24) hx hb dX2_sum_9 (by decide) (fun c1 => ?_) (fun c1 => ?_)
      · have h := br_pos c1 h
        refine lv_iload_n hx hb dX2_sum_24 rfl (lv_at hl 0 rfl) ?_
        obtain rfl := Option.some.inj h
        exact hret _ _ _ _ _ hP hD hS dX2_sum_25 rfl rfl
      · have h := br_neg c1 h
        refine lv_iload_n hx hb dX2_sum_12 rfl (lv_at hl 0 rfl) ?_
        refine lv_aload_n hx hb dX2_sum_13 rfl (lv_at hl 3 rfl) ?_
        refine lv_iload_n hx hb dX2_sum_14 rfl (lv_at hl 1 rfl) ?_
        obtain ⟨g2, h⟩ := gd_some h
        refine va_iald hx hb hK hP 0 0 rfl rfl g2 dX2_sum_15 ?_
        refine lv_iadd hx hb dX2_sum_16 ?_
        refine lv_topi (fun z3 ez3 => ?_)
        have h := nm_at ez3 h
        refine lv_istore_n (lv' := [(2, .int z3), (3, .int y3), (0, .ref aF), (1, .ref ar1)]) hx hb dX2_sum_17 rfl hl (by decide) rfl (fun ls hl => ?_)
        refine lv_iinc (v := y3 + 1) (lv' := [(3, .int (y3 + 1)), (2, .int z3), (0, .ref aF), (1, .ref ar1)]) hx hb dX2_sum_18 hl (k := 1) rfl rfl (by decide) rfl (fun ls hl => ?_)
        refine lv_goto (tgt := 4) hx hb dX2_sum_21 (by decide) ?_
        exact ih4 z3 (y3 + 1) _ _ _ hP hD hS (lv_sub hl [1, 0, 2, 3] rfl) h
  exact lp4 FU (0 : Int32) (0 : Int32) _ _ _ hP hD hS (lv_sub hl [1, 0, 2, 3] rfl) h
/-! ===== X2_add ===== -/
def w_X2_add (cyI cyJ cyZ cyB cyO : ClassId) (aF aF_kind aF_above aF_edge aF_pool aF_store aF_spot : Nat) (vF_basins : Int32) (vF_spring : Int32) (vF_hour : Int32) (vF_z : Int32) (cF_kind : Nat → Int32) (cF_above : Nat → Int32) (cF_edge : Nat → Int32) (cF_pool : Nat → Int32) (cF_store : Nat → Int32) : va_W := [(aF, .inr (2, [.ref aF_kind, .ref aF_above, .ref aF_edge, .ref aF_pool, .ref aF_store, .ref aF_spot, .int vF_basins, .int vF_spring, .int vF_hour, .int vF_z])), (aF_kind, .inl (cyI, 10, .inl cF_kind)), (aF_above, .inl (cyI, 10, .inl cF_above)), (aF_edge, .inl (cyI, 10, .inl cF_edge)), (aF_pool, .inl (cyI, 10, .inl cF_pool)), (aF_store, .inl (cyI, 10, .inl cF_store))]
noncomputable def f_X2_add (x1 : Int32) (x2 : Int32) (x3 : Int32) (vF_basins : Int32) (cF_kind : Nat → Int32) (cF_above : Nat → Int32) (cF_edge : Nat → Int32) (cF_pool : Nat → Int32) (cF_store : Nat → Int32) : Option (Int32 × Int32 × (Nat → Int32) × (Nat → Int32) × (Nat → Int32) × (Nat → Int32) × (Nat → Int32)) :=
  br (vF_basins < 0)
  (some ((-1 : Int32), vF_basins, cF_kind, cF_above, cF_edge, cF_pool, cF_store))
  (br (vF_basins < (10 : Int32))
  (gd (vp_in vF_basins 10) (gd (vp_in vF_basins 10) (gd (vp_in vF_basins 10) (gd (vp_in vF_basins 10) (gd (vp_in vF_basins 10) (some (vF_basins, (vF_basins + (1 : Int32)), (upd cF_kind vF_basins.toNatClampNeg x1), (upd cF_above vF_basins.toNatClampNeg x2), (upd cF_edge vF_basins.toNatClampNeg x3), (upd cF_pool vF_basins.toNatClampNeg (0 : Int32)), (upd cF_store vF_basins.toNatClampNeg (0 : Int32)))))))))
  (some ((-1 : Int32), vF_basins, cF_kind, cF_above, cF_edge, cF_pool, cF_store)))
set_option maxHeartbeats 4000000 in
set_option maxRecDepth 100000 in
theorem t_X2_add (l : Launch) (D : va_G) (cyI cyJ cyZ cyB cyO : ClassId) (aF aF_kind aF_above aF_edge aF_pool aF_store aF_spot : Nat) (vF_basins : Int32) (vF_spring : Int32) (vF_hour : Int32) (vF_z : Int32) (cF_kind : Nat → Int32) (cF_above : Nat → Int32) (cF_edge : Nat → Int32) (cF_pool : Nat → Int32) (cF_store : Nat → Int32) (x1 : Int32) (x2 : Int32) (x3 : Int32) (out : Int32 × Int32 × (Nat → Int32) × (Nat → Int32) × (Nat → Int32) × (Nat → Int32) × (Nat → Int32)) (h : f_X2_add x1 x2 x3 vF_basins cF_kind cF_above cF_edge cF_pool cF_store = some out) : Mi l yX2_add wsX2_add ({ frames := 0, cells := 0, slots := 0, locals := 0 } : Room) D (tyA cyI cyJ cyZ cyB cyO) [.ref aF, .int x1, .int x2, .int x3] (w_X2_add cyI cyJ cyZ cyB cyO aF aF_kind aF_above aF_edge aF_pool aF_store aF_spot vF_basins vF_spring vF_hour vF_z cF_kind cF_above cF_edge cF_pool cF_store) (w_X2_add cyI cyJ cyZ cyB cyO aF aF_kind aF_above aF_edge aF_pool aF_store aF_spot out.2.1 vF_spring vF_hour vF_z out.2.2.1 out.2.2.2.1 out.2.2.2.2.1 out.2.2.2.2.2.1 out.2.2.2.2.2.2) out.1 := by
  refine Mi.mk (cc := cX2_add) (maxL := 5) (rt := .int) (own := RX2) (by decide) rfl rfl (Nat.le_of_ble_eq_true rfl) ?_
  intro p e s m args below meth c A Q F hK hP hD hA hret ls hl
  obtain ⟨hx, hb, hml, hown, hts⟩ := id F
  have hS : va_S A s.heap s.heap [] := va_S.rf
  have hl : lv_has ls 5 [(0, .ref aF), (1, .int x1), (2, .int x2), (3, .int x3)] := hl
  have in_X2 : ∀ w ∈ wsX20, w ∈ wsX2_add := by decide +kernel
  have q1 := hts (Cond.fieldLink RX2 43 "ThirdFountain$Fountain" "basins" "I") (List.mem_of_getElem? (i := 1) rfl)
  have q2 := hts (Cond.fieldLink RX2 9 "ThirdFountain$Fountain" "kind" "[I") (List.mem_of_getElem? (i := 2) rfl)
  have q3 := hts (Cond.fieldLink RX2 15 "ThirdFountain$Fountain" "above" "[I") (List.mem_of_getElem? (i := 3) rfl)
  have q4 := hts (Cond.fieldLink RX2 18 "ThirdFountain$Fountain" "edge" "[I") (List.mem_of_getElem? (i := 4) rfl)
  have q5 := hts (Cond.fieldLink RX2 21 "ThirdFountain$Fountain" "pool" "[I") (List.mem_of_getElem? (i := 5) rfl)
  have q6 := hts (Cond.fieldLink RX2 24 "ThirdFountain$Fountain" "store" "[I") (List.mem_of_getElem? (i := 6) rfl)
  unfold f_X2_add at h
  refine lv_aload_n hx hb dX2_add_0 rfl (lv_at hl 0 rfl) ?_
  refine va_get (D := D) (ci := 2) (v := .int vF_basins) (C := RX2) (T := TX2) (N := 10) hx hb hts in_X2 hown hK hP 0 rfl rfl 6 (by decide) q1 (fun _ h9 => h9) rfl dX2_add_1 ?_
  refine lv_istore (lv' := [(4, .int vF_basins), (0, .ref aF), (1, .int x1), (2, .int x2), (3, .int x3)]) hx hb dX2_add_4 hl (by decide) rfl (fun ls hl => ?_)
  refine lv_iload hx hb dX2_add_6 (lv_at hl 0 rfl) ?_
  refine lv_if_lt (tgt := 18) hx hb dX2_add_8 (by decide) (fun c1 => ?_) (fun c1 => ?_)
  · have h := br_pos c1 h
    refine lv_iconst (v := -1) hx hb dX2_add_18 (by decide) ?_
    obtain rfl := Option.some.inj h
    exact hret _ _ _ _ _ hP hD hS dX2_add_19 rfl rfl
  · have h := br_neg c1 h
    refine lv_iload hx hb dX2_add_11 (lv_at hl 0 rfl) ?_
    refine lv_bipush (v := 10) hx hb dX2_add_13 (by decide) ?_
    refine lv_icmp_lt (tgt := 20) hx hb dX2_add_15 (by decide) (fun c2 => ?_) (fun c2 => ?_)
    · have h := br_pos c2 h
      refine lv_aload_n hx hb dX2_add_20 rfl (lv_at hl 1 rfl) ?_
      refine va_get (D := D) (ci := 2) (v := .ref aF_kind) (C := RX2) (T := TX2) (N := 10) hx hb hts in_X2 hown hK hP 0 rfl rfl 0 (by decide) q2 (fun _ h9 => h9) rfl dX2_add_21 ?_
      refine lv_iload hx hb dX2_add_24 (lv_at hl 0 rfl) ?_
      refine lv_iload_n hx hb dX2_add_26 rfl (lv_at hl 2 rfl) ?_
      obtain ⟨g3, h⟩ := gd_some h
      refine va_iast hx hb hK hP hD hS 1 0 rfl rfl g3 dX2_add_27 (fun H locs hP hD hS => ?_)
      have hP : va_P D vwCl (w_X2_add cyI cyJ cyZ cyB cyO aF aF_kind aF_above aF_edge aF_pool aF_store aF_spot vF_basins vF_spring vF_hour vF_z (upd cF_kind vF_basins.toNatClampNeg x1) cF_above cF_edge cF_pool cF_store) H := hP
      have hD : va_D A (w_X2_add cyI cyJ cyZ cyB cyO aF aF_kind aF_above aF_edge aF_pool aF_store aF_spot vF_basins vF_spring vF_hour vF_z (upd cF_kind vF_basins.toNatClampNeg x1) cF_above cF_edge cF_pool cF_store) := hD
      refine lv_aload_n hx hb dX2_add_28 rfl (lv_at hl 1 rfl) ?_
      refine va_get (D := D) (ci := 2) (v := .ref aF_above) (C := RX2) (T := TX2) (N := 10) hx hb hts in_X2 hown hK hP 0 rfl rfl 1 (by decide) q3 (fun _ h9 => h9) rfl dX2_add_29 ?_
      refine lv_iload hx hb dX2_add_32 (lv_at hl 0 rfl) ?_
      refine lv_iload_n hx hb dX2_add_34 rfl (lv_at hl 3 rfl) ?_
      obtain ⟨g4, h⟩ := gd_some h
      refine va_iast hx hb hK hP hD hS 2 0 rfl rfl g4 dX2_add_35 (fun H locs hP hD hS => ?_)
      have hP : va_P D vwCl (w_X2_add cyI cyJ cyZ cyB cyO aF aF_kind aF_above aF_edge aF_pool aF_store aF_spot vF_basins vF_spring vF_hour vF_z (upd cF_kind vF_basins.toNatClampNeg x1) (upd cF_above vF_basins.toNatClampNeg x2) cF_edge cF_pool cF_store) H := hP
      have hD : va_D A (w_X2_add cyI cyJ cyZ cyB cyO aF aF_kind aF_above aF_edge aF_pool aF_store aF_spot vF_basins vF_spring vF_hour vF_z (upd cF_kind vF_basins.toNatClampNeg x1) (upd cF_above vF_basins.toNatClampNeg x2) cF_edge cF_pool cF_store) := hD
      refine lv_aload_n hx hb dX2_add_36 rfl (lv_at hl 1 rfl) ?_
      refine va_get (D := D) (ci := 2) (v := .ref aF_edge) (C := RX2) (T := TX2) (N := 10) hx hb hts in_X2 hown hK hP 0 rfl rfl 2 (by decide) q4 (fun _ h9 => h9) rfl dX2_add_37 ?_
      refine lv_iload hx hb dX2_add_40 (lv_at hl 0 rfl) ?_
      refine lv_iload_n hx hb dX2_add_42 rfl (lv_at hl 4 rfl) ?_
      obtain ⟨g5, h⟩ := gd_some h
      refine va_iast hx hb hK hP hD hS 3 0 rfl rfl g5 dX2_add_43 (fun H locs hP hD hS => ?_)
      have hP : va_P D vwCl (w_X2_add cyI cyJ cyZ cyB cyO aF aF_kind aF_above aF_edge aF_pool aF_store aF_spot vF_basins vF_spring vF_hour vF_z (upd cF_kind vF_basins.toNatClampNeg x1) (upd cF_above vF_basins.toNatClampNeg x2) (upd cF_edge vF_basins.toNatClampNeg x3) cF_pool cF_store) H := hP
      have hD : va_D A (w_X2_add cyI cyJ cyZ cyB cyO aF aF_kind aF_above aF_edge aF_pool aF_store aF_spot vF_basins vF_spring vF_hour vF_z (upd cF_kind vF_basins.toNatClampNeg x1) (upd cF_above vF_basins.toNatClampNeg x2) (upd cF_edge vF_basins.toNatClampNeg x3) cF_pool cF_store) := hD
      refine lv_aload_n hx hb dX2_add_44 rfl (lv_at hl 1 rfl) ?_
      refine va_get (D := D) (ci := 2) (v := .ref aF_pool) (C := RX2) (T := TX2) (N := 10) hx hb hts in_X2 hown hK hP 0 rfl rfl 3 (by decide) q5 (fun _ h9 => h9) rfl dX2_add_45 ?_
      refine lv_iload hx hb dX2_add_48 (lv_at hl 0 rfl) ?_
      refine lv_iconst (v := 0) hx hb dX2_add_50 (by decide) ?_
      obtain ⟨g6, h⟩ := gd_some h
      refine va_iast hx hb hK hP hD hS 4 0 rfl rfl g6 dX2_add_51 (fun H locs hP hD hS => ?_)
      have hP : va_P D vwCl (w_X2_add cyI cyJ cyZ cyB cyO aF aF_kind aF_above aF_edge aF_pool aF_store aF_spot vF_basins vF_spring vF_hour vF_z (upd cF_kind vF_basins.toNatClampNeg x1) (upd cF_above vF_basins.toNatClampNeg x2) (upd cF_edge vF_basins.toNatClampNeg x3) (upd cF_pool vF_basins.toNatClampNeg (0 : Int32)) cF_store) H := hP
      have hD : va_D A (w_X2_add cyI cyJ cyZ cyB cyO aF aF_kind aF_above aF_edge aF_pool aF_store aF_spot vF_basins vF_spring vF_hour vF_z (upd cF_kind vF_basins.toNatClampNeg x1) (upd cF_above vF_basins.toNatClampNeg x2) (upd cF_edge vF_basins.toNatClampNeg x3) (upd cF_pool vF_basins.toNatClampNeg (0 : Int32)) cF_store) := hD
      refine lv_aload_n hx hb dX2_add_52 rfl (lv_at hl 1 rfl) ?_
      refine va_get (D := D) (ci := 2) (v := .ref aF_store) (C := RX2) (T := TX2) (N := 10) hx hb hts in_X2 hown hK hP 0 rfl rfl 4 (by decide) q6 (fun _ h9 => h9) rfl dX2_add_53 ?_
      refine lv_iload hx hb dX2_add_56 (lv_at hl 0 rfl) ?_
      refine lv_iconst (v := 0) hx hb dX2_add_58 (by decide) ?_
      obtain ⟨g7, h⟩ := gd_some h
      refine va_iast hx hb hK hP hD hS 5 0 rfl rfl g7 dX2_add_59 (fun H locs hP hD hS => ?_)
      have hP : va_P D vwCl (w_X2_add cyI cyJ cyZ cyB cyO aF aF_kind aF_above aF_edge aF_pool aF_store aF_spot vF_basins vF_spring vF_hour vF_z (upd cF_kind vF_basins.toNatClampNeg x1) (upd cF_above vF_basins.toNatClampNeg x2) (upd cF_edge vF_basins.toNatClampNeg x3) (upd cF_pool vF_basins.toNatClampNeg (0 : Int32)) (upd cF_store vF_basins.toNatClampNeg (0 : Int32))) H := hP
      have hD : va_D A (w_X2_add cyI cyJ cyZ cyB cyO aF aF_kind aF_above aF_edge aF_pool aF_store aF_spot vF_basins vF_spring vF_hour vF_z (upd cF_kind vF_basins.toNatClampNeg x1) (upd cF_above vF_basins.toNatClampNeg x2) (upd cF_edge vF_basins.toNatClampNeg x3) (upd cF_pool vF_basins.toNatClampNeg (0 : Int32)) (upd cF_store vF_basins.toNatClampNeg (0 : Int32))) := hD
      refine lv_aload_n hx hb dX2_add_60 rfl (lv_at hl 1 rfl) ?_
      refine lv_dup hx hb dX2_add_61 rfl ?_
      refine va_get (D := D) (ci := 2) (v := .int vF_basins) (C := RX2) (T := TX2) (N := 10) hx hb hts in_X2 hown hK hP 0 rfl rfl 6 (by decide) q1 (fun _ h9 => h9) rfl dX2_add_62 ?_
      refine lv_iconst (v := 1) hx hb dX2_add_65 (by decide) ?_
      refine lv_iadd hx hb dX2_add_66 ?_
      refine va_put (D := D) (ci := 2) (v := .int (vF_basins + (1 : Int32))) (ty := .int) (C := RX2) (T := TX2) (N := 10) hx hb hts in_X2 tyX2 tyX2_ok nmX2 hown hK hP hD hS 0 rfl rfl 6 (by decide) q1 (fun _ h9 => h9) rfl (by decide +kernel) rfl rfl (Nat.le_of_ble_eq_true rfl) dX2_add_67 (fun H locs hP hD hS => ?_)
      have hP : va_P D vwCl (w_X2_add cyI cyJ cyZ cyB cyO aF aF_kind aF_above aF_edge aF_pool aF_store aF_spot (vF_basins + (1 : Int32)) vF_spring vF_hour vF_z (upd cF_kind vF_basins.toNatClampNeg x1) (upd cF_above vF_basins.toNatClampNeg x2) (upd cF_edge vF_basins.toNatClampNeg x3) (upd cF_pool vF_basins.toNatClampNeg (0 : Int32)) (upd cF_store vF_basins.toNatClampNeg (0 : Int32))) H := hP
      have hD : va_D A (w_X2_add cyI cyJ cyZ cyB cyO aF aF_kind aF_above aF_edge aF_pool aF_store aF_spot (vF_basins + (1 : Int32)) vF_spring vF_hour vF_z (upd cF_kind vF_basins.toNatClampNeg x1) (upd cF_above vF_basins.toNatClampNeg x2) (upd cF_edge vF_basins.toNatClampNeg x3) (upd cF_pool vF_basins.toNatClampNeg (0 : Int32)) (upd cF_store vF_basins.toNatClampNeg (0 : Int32))) := hD
      refine lv_iload hx hb dX2_add_70 (lv_at hl 0 rfl) ?_
      obtain rfl := Option.some.inj h
      exact hret _ _ _ _ _ hP hD hS dX2_add_72 rfl rfl
    · have h := br_neg c2 h
      refine lv_iconst (v := -1) hx hb dX2_add_18 (by decide) ?_
      obtain rfl := Option.some.inj h
      exact hret _ _ _ _ _ hP hD hS dX2_add_19 rfl rfl
/-! ===== X1_measure ===== -/
def w_X1_measure (cyI cyJ cyZ cyB cyO : ClassId) (aF aW aW_width aF_above aF_edge aF_kind aF_pool aF_store aF_spot aW_comes aW_keeps aW_holds aW_goesOn : Nat) (vF_basins : Int32) (vF_spring : Int32) (vF_hour : Int32) (vF_z : Int32) (vW_kept : Int32) (vW_leaked : Int32) (vW_ranOff : Int32) (vW_uneven : Int32) (vW_keptInAll : Int32) (vW_leakedInAll : Int32) (vW_ranOffInAll : Int32) (cW_width : Nat → Int32) (cF_above : Nat → Int32) (cF_edge : Nat → Int32) : va_W := [(aF, .inr (2, [.ref aF_kind, .ref aF_above, .ref aF_edge, .ref aF_pool, .ref aF_store, .ref aF_spot, .int vF_basins, .int vF_spring, .int vF_hour, .int vF_z])), (aW, .inr (1, [.ref aW_comes, .ref aW_keeps, .ref aW_holds, .ref aW_goesOn, .ref aW_width, .int vW_kept, .int vW_leaked, .int vW_ranOff, .int vW_uneven, .int vW_keptInAll, .int vW_leakedInAll, .int vW_ranOffInAll])), (aW_width, .inl (cyI, 10, .inl cW_width)), (aF_above, .inl (cyI, 10, .inl cF_above)), (aF_edge, .inl (cyI, 10, .inl cF_edge))]
noncomputable def f_X1_measure_L2_b (vF_basins : Int32) (cF_above : Nat → Int32) (cF_edge : Nat → Int32) (rc2 : (Int32 × (Nat → Int32)) → Option ((Nat → Int32))) (y2 : Int32) (cW_width : Nat → Int32) : Option ((Nat → Int32)) :=
  br (vF_basins ≤ y2)
  (some cW_width)
  (gd (vp_in y2 10) (gd (vp_in y2 10) (nm (cF_above y2.toNatClampNeg) fun z4 =>
  br (z4 < 0)
  (rc2 ((y2 + 1), (upd cW_width y2.toNatClampNeg (0 : Int32))))
  (br (y2 ≤ z4)
  (rc2 ((y2 + 1), (upd cW_width y2.toNatClampNeg (0 : Int32))))
  (gd (vp_in z4 10) (gd (vp_in y2 10) (gd (vp_in z4 10) (rc2 ((y2 + 1), (upd (upd cW_width y2.toNatClampNeg (0 : Int32)) z4.toNatClampNeg (((upd cW_width y2.toNatClampNeg (0 : Int32)) z4.toNatClampNeg) + (cF_edge y2.toNatClampNeg))))))))))))
noncomputable def f_X1_measure_L2 (vF_basins : Int32) (cF_above : Nat → Int32) (cF_edge : Nat → Int32) (k : Nat) : (Int32 × (Nat → Int32)) → Option ((Nat → Int32)) := lp (fun rc v => f_X1_measure_L2_b vF_basins cF_above cF_edge rc v.1 v.2) k
theorem f_X1_measure_L2_s (vF_basins : Int32) (cF_above : Nat → Int32) (cF_edge : Nat → Int32) (k : Nat) (y2 : Int32) (cW_width : Nat → Int32) : f_X1_measure_L2 vF_basins cF_above cF_edge (k + 1) (y2, cW_width) = f_X1_measure_L2_b vF_basins cF_above cF_edge (f_X1_measure_L2 vF_basins cF_above cF_edge k) y2 cW_width := rfl
theorem f_X1_measure_L2_0 (vF_basins : Int32) (cF_above : Nat → Int32) (cF_edge : Nat → Int32) (v : Int32 × (Nat → Int32)) : f_X1_measure_L2 vF_basins cF_above cF_edge 0 v = none := rfl
noncomputable def f_X1_measure (vF_basins : Int32) (cW_width : Nat → Int32) (cF_above : Nat → Int32) (cF_edge : Nat → Int32) : Option ((Nat → Int32)) :=
  f_X1_measure_L2 vF_basins cF_above cF_edge FU ((0 : Int32), cW_width)
set_option maxHeartbeats 4000000 in
set_option maxRecDepth 100000 in
theorem t_X1_measure (l : Launch) (D : va_G) (cyI cyJ cyZ cyB cyO : ClassId) (aF aW aW_width aF_above aF_edge aF_kind aF_pool aF_store aF_spot aW_comes aW_keeps aW_holds aW_goesOn : Nat) (vF_basins : Int32) (vF_spring : Int32) (vF_hour : Int32) (vF_z : Int32) (vW_kept : Int32) (vW_leaked : Int32) (vW_ranOff : Int32) (vW_uneven : Int32) (vW_keptInAll : Int32) (vW_leakedInAll : Int32) (vW_ranOffInAll : Int32) (cW_width : Nat → Int32) (cF_above : Nat → Int32) (cF_edge : Nat → Int32) (out : (Nat → Int32)) (h : f_X1_measure vF_basins cW_width cF_above cF_edge = some out) : Mv l yX1_measure wsX1_measure ({ frames := 0, cells := 0, slots := 0, locals := 0 } : Room) D (tyA cyI cyJ cyZ cyB cyO) [.ref aW, .ref aF] (w_X1_measure cyI cyJ cyZ cyB cyO aF aW aW_width aF_above aF_edge aF_kind aF_pool aF_store aF_spot aW_comes aW_keeps aW_holds aW_goesOn vF_basins vF_spring vF_hour vF_z vW_kept vW_leaked vW_ranOff vW_uneven vW_keptInAll vW_leakedInAll vW_ranOffInAll cW_width cF_above cF_edge) (w_X1_measure cyI cyJ cyZ cyB cyO aF aW aW_width aF_above aF_edge aF_kind aF_pool aF_store aF_spot aW_comes aW_keeps aW_holds aW_goesOn vF_basins vF_spring vF_hour vF_z vW_kept vW_leaked vW_ranOff vW_uneven vW_keptInAll vW_leakedInAll vW_ranOffInAll out cF_above cF_edge) := by
  refine Mv.mk (cc := cX1_measure) (maxL := 4) (own := RX1) (by decide) rfl rfl (Nat.le_of_ble_eq_true rfl) ?_
  intro p e s m args below meth c A Q F hK hP hD hA hret ls hl
  obtain ⟨hx, hb, hml, hown, hts⟩ := id F
  have hS : va_S A s.heap s.heap [] := va_S.rf
  have hl : lv_has ls 4 [(0, .ref aW), (1, .ref aF)] := hl
  have in_X2 : ∀ w ∈ wsX20, w ∈ wsX1_measure := by decide +kernel
  have in_X1 : ∀ w ∈ wsX10, w ∈ wsX1_measure := by decide +kernel
  have q1 := hts (Cond.fieldLink RX1 62 "ThirdFountain$Fountain" "basins" "I") (List.mem_of_getElem? (i := 1) rfl)
  have q2 := hts (Cond.fieldLink RX1 24 "ThirdFountain$Flow" "width" "[I") (List.mem_of_getElem? (i := 2) rfl)
  have q3 := hts (Cond.fieldLink RX1 73 "ThirdFountain$Fountain" "above" "[I") (List.mem_of_getElem? (i := 3) rfl)
  have q4 := hts (Cond.fieldLink RX1 76 "ThirdFountain$Fountain" "edge" "[I") (List.mem_of_getElem? (i := 4) rfl)
  unfold f_X1_measure at h
  refine lv_iconst (v := 0) hx hb dX1_measure_0 (by decide) ?_
  refine lv_istore_n (lv' := [(2, .int (0 : Int32)), (0, .ref aW), (1, .ref aF)]) hx hb dX1_measure_1 rfl hl (by decide) rfl (fun ls hl => ?_)
  have lp2 : ∀ (k2 : Nat) (y2 : Int32) (cW_width : Nat → Int32) (H : Heap) (locs : List Loc) (ls : Array Slot), va_P D vwCl (w_X1_measure cyI cyJ cyZ cyB cyO aF aW aW_width aF_above aF_edge aF_kind aF_pool aF_store aF_spot aW_comes aW_keeps aW_holds aW_goesOn vF_basins vF_spring vF_hour vF_z vW_kept vW_leaked vW_ranOff vW_uneven vW_keptInAll vW_leakedInAll vW_ranOffInAll cW_width cF_above cF_edge) H → va_D A (w_X1_measure cyI cyJ cyZ cyB cyO aF aW aW_width aF_above aF_edge aF_kind aF_pool aF_store aF_spot aW_comes aW_keeps aW_holds aW_goesOn vF_basins vF_spring vF_hour vF_z vW_kept vW_leaked vW_ranOff vW_uneven vW_keptInAll vW_leakedInAll vW_ranOffInAll cW_width cF_above cF_edge) → va_S A s.heap H locs → lv_has ls 4 [(2, .int y2), (0, .ref aW), (1, .ref aF)] → (f_X1_measure_L2 vF_basins cF_above cF_edge k2) (y2, cW_width) = some out → W p l e ({ frames := 0, cells := 0, slots := 0, locals := 0 } : Room) s m args below meth c H locs 0 0 Q (F0 m 2 ls []) := by
    intro k2
    induction k2 with
    | zero => intro y2 cW_width H locs ls hP hD hS hl h; cases h
    | succ k2 ih2 =>
      intro y2 cW_width H locs ls hP hD hS hl h
      have h : f_X1_measure_L2_b vF_basins cF_above cF_edge (f_X1_measure_L2 vF_basins cF_above cF_edge k2) y2 cW_width = some out := h
      unfold f_X1_measure_L2_b at h
      refine lv_iload_n hx hb dX1_measure_2 rfl (lv_at hl 0 rfl) ?_
      refine lv_aload_n hx hb dX1_measure_3 rfl (lv_at hl 2 rfl) ?_
      refine va_get (D := D) (ci := 2) (v := .int vF_basins) (C := RX2) (T := TX2) (N := 10) hx hb hts in_X2 hown hK hP 0 rfl rfl 6 (by decide) q1 (fun _ h9 => h9) rfl dX1_measure_4 ?_
      refine lv_icmp_ge (tgt := 54) hx hb dX1_measure_7 (by decide) (fun c1 => ?_) (fun c1 => ?_)
      · have h := br_pos c1 h
        obtain rfl := Option.some.inj h
        exact hret _ _ _ _ hP hD hS dX1_measure_54 
      · have h := br_neg c1 h
        refine lv_aload_n hx hb dX1_measure_10 rfl (lv_at hl 1 rfl) ?_
        refine va_get (D := D) (ci := 1) (v := .ref aW_width) (C := RX1) (T := TX1) (N := 12) hx hb hts in_X1 hown hK hP 1 rfl rfl 4 (by decide) q2 (fun _ h9 => h9) rfl dX1_measure_11 ?_
        refine lv_iload_n hx hb dX1_measure_14 rfl (lv_at hl 0 rfl) ?_
        refine lv_iconst (v := 0) hx hb dX1_measure_15 (by decide) ?_
        obtain ⟨g2, h⟩ := gd_some h
        refine va_iast hx hb hK hP hD hS 2 0 rfl rfl g2 dX1_measure_16 (fun H locs hP hD hS => ?_)
        have hP : va_P D vwCl (w_X1_measure cyI cyJ cyZ cyB cyO aF aW aW_width aF_above aF_edge aF_kind aF_pool aF_store aF_spot aW_comes aW_keeps aW_holds aW_goesOn vF_basins vF_spring vF_hour vF_z vW_kept vW_leaked vW_ranOff vW_uneven vW_keptInAll vW_leakedInAll vW_ranOffInAll (upd cW_width y2.toNatClampNeg (0 : Int32)) cF_above cF_edge) H := hP
        have hD : va_D A (w_X1_measure cyI cyJ cyZ cyB cyO aF aW aW_width aF_above aF_edge aF_kind aF_pool aF_store aF_spot aW_comes aW_keeps aW_holds aW_goesOn vF_basins vF_spring vF_hour vF_z vW_kept vW_leaked vW_ranOff vW_uneven vW_keptInAll vW_leakedInAll vW_ranOffInAll (upd cW_width y2.toNatClampNeg (0 : Int32)) cF_above cF_edge) := hD
        refine lv_aload_n hx hb dX1_measure_17 rfl (lv_at hl 2 rfl) ?_
        refine va_get (D := D) (ci := 2) (v := .ref aF_above) (C := RX2) (T := TX2) (N := 10) hx hb hts in_X2 hown hK hP 0 rfl rfl 1 (by decide) q3 (fun _ h9 => h9) rfl dX1_measure_18 ?_
        refine lv_iload_n hx hb dX1_measure_21 rfl (lv_at hl 0 rfl) ?_
        obtain ⟨g3, h⟩ := gd_some h
        refine va_iald hx hb hK hP 3 0 rfl rfl g3 dX1_measure_22 ?_
        refine lv_topi (fun z4 ez4 => ?_)
        have h := nm_at ez4 h
        refine lv_istore_n (lv' := [(3, .int z4), (2, .int y2), (0, .ref aW), (1, .ref aF)]) hx hb dX1_measure_23 rfl hl (by decide) rfl (fun ls hl => ?_)
        refine lv_iload_n hx hb dX1_measure_24 rfl (lv_at hl 0 rfl) ?_
        refine lv_if_lt (tgt := 48) hx hb dX1_measure_25 (by decide) (fun c5 => ?_) (fun c5 => ?_)
        · have h := br_pos c5 h
          refine lv_iinc (v := y2 + 1) (lv' := [(2, .int (y2 + 1)), (3, .int z4), (0, .ref aW), (1, .ref aF)]) hx hb dX1_measure_48 hl (k := 1) rfl rfl (by decide) rfl (fun ls hl => ?_)
          refine lv_goto (tgt := 2) hx hb dX1_measure_51 (by decide) ?_
          exact ih2 (y2 + 1) (upd cW_width y2.toNatClampNeg (0 : Int32)) _ _ _ hP hD hS (lv_sub hl [0, 2, 3] rfl) h
        · have h := br_neg c5 h
          refine lv_iload_n hx hb dX1_measure_28 rfl (lv_at hl 0 rfl) ?_
          refine lv_iload_n hx hb dX1_measure_29 rfl (lv_at hl 1 rfl) ?_
          refine lv_icmp_ge (tgt := 48) hx hb dX1_measure_30 (by decide) (fun c6 => ?_) (fun c6 => ?_)
          · have h := br_pos c6 h
            refine lv_iinc (v := y2 + 1) (lv' := [(2, .int (y2 + 1)), (3, .int z4), (0, .ref aW), (1, .ref aF)]) hx hb dX1_measure_48 hl (k := 1) rfl rfl (by decide) rfl (fun ls hl => ?_)
            refine lv_goto (tgt := 2) hx hb dX1_measure_51 (by decide) ?_
            exact ih2 (y2 + 1) (upd cW_width y2.toNatClampNeg (0 : Int32)) _ _ _ hP hD hS (lv_sub hl [0, 2, 3] rfl) h
          · have h := br_neg c6 h
            refine lv_aload_n hx hb dX1_measure_33 rfl (lv_at hl 2 rfl) ?_
            refine va_get (D := D) (ci := 1) (v := .ref aW_width) (C := RX1) (T := TX1) (N := 12) hx hb hts in_X1 hown hK hP 1 rfl rfl 4 (by decide) q2 (fun _ h9 => h9) rfl dX1_measure_34 ?_
            refine lv_iload_n hx hb dX1_measure_37 rfl (lv_at hl 0 rfl) ?_
            refine lv_dup2_11 hx hb dX1_measure_38 rfl rfl ?_
            obtain ⟨g7, h⟩ := gd_some h
            refine va_iald hx hb hK hP 2 0 rfl rfl g7 dX1_measure_39 ?_
            refine lv_aload_n hx hb dX1_measure_40 rfl (lv_at hl 3 rfl) ?_
            refine va_get (D := D) (ci := 2) (v := .ref aF_edge) (C := RX2) (T := TX2) (N := 10) hx hb hts in_X2 hown hK hP 0 rfl rfl 2 (by decide) q4 (fun _ h9 => h9) rfl dX1_measure_41 ?_
            refine lv_iload_n hx hb dX1_measure_44 rfl (lv_at hl 1 rfl) ?_
            obtain ⟨g8, h⟩ := gd_some h
            refine va_iald hx hb hK hP 4 0 rfl rfl g8 dX1_measure_45 ?_
            refine lv_iadd hx hb dX1_measure_46 ?_
            obtain ⟨g9, h⟩ := gd_some h
            refine va_iast hx hb hK hP hD hS 2 0 rfl rfl g9 dX1_measure_47 (fun H locs hP hD hS => ?_)
            have hP : va_P D vwCl (w_X1_measure cyI cyJ cyZ cyB cyO aF aW aW_width aF_above aF_edge aF_kind aF_pool aF_store aF_spot aW_comes aW_keeps aW_holds aW_goesOn vF_basins vF_spring vF_hour vF_z vW_kept vW_leaked vW_ranOff vW_uneven vW_keptInAll vW_leakedInAll vW_ranOffInAll (upd (upd cW_width y2.toNatClampNeg (0 : Int32)) z4.toNatClampNeg (((upd cW_width y2.toNatClampNeg (0 : Int32)) z4.toNatClampNeg) + (cF_edge y2.toNatClampNeg))) cF_above cF_edge) H := hP
            have hD : va_D A (w_X1_measure cyI cyJ cyZ cyB cyO aF aW aW_width aF_above aF_edge aF_kind aF_pool aF_store aF_spot aW_comes aW_keeps aW_holds aW_goesOn vF_basins vF_spring vF_hour vF_z vW_kept vW_leaked vW_ranOff vW_uneven vW_keptInAll vW_leakedInAll vW_ranOffInAll (upd (upd cW_width y2.toNatClampNeg (0 : Int32)) z4.toNatClampNeg (((upd cW_width y2.toNatClampNeg (0 : Int32)) z4.toNatClampNeg) + (cF_edge y2.toNatClampNeg))) cF_above cF_edge) := hD
            refine lv_iinc (v := y2 + 1) (lv' := [(2, .int (y2 + 1)), (3, .int z4), (0, .ref aW), (1, .ref aF)]) hx hb dX1_measure_48 hl (k := 1) rfl rfl (by decide) rfl (fun ls hl => ?_)
            refine lv_goto (tgt := 2) hx hb dX1_measure_51 (by decide) ?_
            exact ih2 (y2 + 1) (upd (upd cW_width y2.toNatClampNeg (0 : Int32)) z4.toNatClampNeg (((upd cW_width y2.toNatClampNeg (0 : Int32)) z4.toNatClampNeg) + (cF_edge y2.toNatClampNeg))) _ _ _ hP hD hS (lv_sub hl [0, 2, 3] rfl) h
  exact lp2 FU (0 : Int32) cW_width _ _ _ hP hD hS (lv_sub hl [0, 1, 2] rfl) h
