/-! ===== X6_append ===== -/
def w_X6_append (cyI cyJ cyZ cyB cyO : ClassId) (aA aA_bytes : Nat) (vA_size : Int32) (vA_token : Int32) (vA_start : Int32) (vA_end : Int32) (vA_number : Int32) (cA_bytes : Nat → Int32) : va_W := [(aA, .inr (5, [.ref aA_bytes, .int vA_size, .int vA_token, .int vA_start, .int vA_end, .int vA_number])), (aA_bytes, .inl (cyI, 120, .inl cA_bytes))]
set_option maxHeartbeats 4000000 in
set_option maxRecDepth 100000 in
theorem t_X6_append (l : Launch) (D : va_G) (cyI cyJ cyZ cyB cyO : ClassId) (aA aA_bytes : Nat) (vA_size : Int32) (vA_token : Int32) (vA_start : Int32) (vA_end : Int32) (vA_number : Int32) (cA_bytes : Nat → Int32) (x1 : Int32) (out : Int32 × (Nat → Int32)) (h : f_X6_append x1 vA_size cA_bytes = some out) : Mv l yX6_append wsX6_append ({ frames := 0, cells := 0, slots := 0, locals := 0 } : Room) D (tyA cyI cyJ cyZ cyB cyO) [.ref aA, .int x1] (w_X6_append cyI cyJ cyZ cyB cyO aA aA_bytes vA_size vA_token vA_start vA_end vA_number cA_bytes) (w_X6_append cyI cyJ cyZ cyB cyO aA aA_bytes out.1 vA_token vA_start vA_end vA_number out.2) := by
  refine Mv.mk (cc := cX6_append) (maxL := 2) (own := RX6) (by decide) rfl rfl (Nat.le_of_ble_eq_true rfl) ?_
  intro p e s m args below meth c A Q F hK hP hD hA hret ls hl
  obtain ⟨hx, hb, hml, hown, hts⟩ := id F
  have hS : va_S A s.heap s.heap [] := va_S.rf
  have hl : lv_has ls 2 [(0, .ref aA), (1, .int x1)] := hl
  have in_X6 : ∀ w ∈ wsX60, w ∈ wsX6_append := by decide +kernel
  have q1 := hts (Cond.fieldLink RX6 15 "ThirdFountain$Tape" "size" "I") (List.mem_of_getElem? (i := 1) rfl)
  have q2 := hts (Cond.fieldLink RX6 9 "ThirdFountain$Tape" "bytes" "[I") (List.mem_of_getElem? (i := 2) rfl)
  unfold f_X6_append at h
  refine lv_aload_n hx hb dX6_append_0 rfl (lv_at hl 0 rfl) ?_
  refine va_get (D := D) (ci := 5) (v := .int vA_size) (C := RX6) (T := TX6) (N := 6) hx hb hts in_X6 hown hK hP 0 rfl rfl 1 (by decide) q1 (fun _ h9 => h9) rfl dX6_append_1 ?_
  refine lv_if_lt (tgt := 36) hx hb dX6_append_4 (by decide) (fun c1 => ?_) (fun c1 => ?_)
  · have h := br_pos c1 h
    obtain rfl := Option.some.inj h
    exact hret _ _ _ _ hP hD hS dX6_append_36 
  · have h := br_neg c1 h
    refine lv_aload_n hx hb dX6_append_7 rfl (lv_at hl 0 rfl) ?_
    refine va_get (D := D) (ci := 5) (v := .int vA_size) (C := RX6) (T := TX6) (N := 6) hx hb hts in_X6 hown hK hP 0 rfl rfl 1 (by decide) q1 (fun _ h9 => h9) rfl dX6_append_8 ?_
    refine lv_bipush (v := 120) hx hb dX6_append_11 (by decide) ?_
    refine lv_icmp_ge (tgt := 36) hx hb dX6_append_13 (by decide) (fun c2 => ?_) (fun c2 => ?_)
    · have h := br_pos c2 h
      obtain rfl := Option.some.inj h
      exact hret _ _ _ _ hP hD hS dX6_append_36 
    · have h := br_neg c2 h
      refine lv_aload_n hx hb dX6_append_16 rfl (lv_at hl 0 rfl) ?_
      refine va_get (D := D) (ci := 5) (v := .ref aA_bytes) (C := RX6) (T := TX6) (N := 6) hx hb hts in_X6 hown hK hP 0 rfl rfl 0 (by decide) q2 (fun _ h9 => h9) rfl dX6_append_17 ?_
      refine lv_aload_n hx hb dX6_append_20 rfl (lv_at hl 0 rfl) ?_
      refine va_get (D := D) (ci := 5) (v := .int vA_size) (C := RX6) (T := TX6) (N := 6) hx hb hts in_X6 hown hK hP 0 rfl rfl 1 (by decide) q1 (fun _ h9 => h9) rfl dX6_append_21 ?_
      refine lv_iload_n hx hb dX6_append_24 rfl (lv_at hl 1 rfl) ?_
      obtain ⟨g3, h⟩ := gd_some h
      refine va_iast hx hb hK hP hD hS 1 0 rfl rfl g3 dX6_append_25 (fun H locs hP hD hS => ?_)
      have hP : va_P D vwCl (w_X6_append cyI cyJ cyZ cyB cyO aA aA_bytes vA_size vA_token vA_start vA_end vA_number (upd cA_bytes vA_size.toNatClampNeg x1)) H := hP
      have hD : va_D A (w_X6_append cyI cyJ cyZ cyB cyO aA aA_bytes vA_size vA_token vA_start vA_end vA_number (upd cA_bytes vA_size.toNatClampNeg x1)) := hD
      refine lv_aload_n hx hb dX6_append_26 rfl (lv_at hl 0 rfl) ?_
      refine lv_dup hx hb dX6_append_27 rfl ?_
      refine va_get (D := D) (ci := 5) (v := .int vA_size) (C := RX6) (T := TX6) (N := 6) hx hb hts in_X6 hown hK hP 0 rfl rfl 1 (by decide) q1 (fun _ h9 => h9) rfl dX6_append_28 ?_
      refine lv_iconst (v := 1) hx hb dX6_append_31 (by decide) ?_
      refine lv_iadd hx hb dX6_append_32 ?_
      refine va_put (D := D) (ci := 5) (v := .int (vA_size + (1 : Int32))) (ty := .int) (C := RX6) (T := TX6) (N := 6) hx hb hts in_X6 tyX6 tyX6_ok nmX6 hown hK hP hD hS 0 rfl rfl 1 (by decide) q1 (fun _ h9 => h9) rfl (by decide +kernel) rfl rfl (Nat.le_of_ble_eq_true rfl) dX6_append_33 (fun H locs hP hD hS => ?_)
      have hP : va_P D vwCl (w_X6_append cyI cyJ cyZ cyB cyO aA aA_bytes (vA_size + (1 : Int32)) vA_token vA_start vA_end vA_number (upd cA_bytes vA_size.toNatClampNeg x1)) H := hP
      have hD : va_D A (w_X6_append cyI cyJ cyZ cyB cyO aA aA_bytes (vA_size + (1 : Int32)) vA_token vA_start vA_end vA_number (upd cA_bytes vA_size.toNatClampNeg x1)) := hD
      obtain rfl := Option.some.inj h
      exact hret _ _ _ _ hP hD hS dX6_append_36 
/-! ===== X6_byteAt ===== -/
def w_X6_byteAt (cyI cyJ cyZ cyB cyO : ClassId) (aA aA_bytes : Nat) (vA_size : Int32) (vA_token : Int32) (vA_start : Int32) (vA_end : Int32) (vA_number : Int32) (cA_bytes : Nat → Int32) : va_W := [(aA, .inr (5, [.ref aA_bytes, .int vA_size, .int vA_token, .int vA_start, .int vA_end, .int vA_number])), (aA_bytes, .inl (cyI, 120, .inl cA_bytes))]
set_option maxHeartbeats 4000000 in
set_option maxRecDepth 100000 in
theorem t_X6_byteAt (l : Launch) (D : va_G) (cyI cyJ cyZ cyB cyO : ClassId) (aA aA_bytes : Nat) (vA_size : Int32) (vA_token : Int32) (vA_start : Int32) (vA_end : Int32) (vA_number : Int32) (cA_bytes : Nat → Int32) (x1 : Int32) (out : Int32) (h : f_X6_byteAt x1 vA_size cA_bytes = some out) : Mi l yX6_byteAt wsX6_byteAt ({ frames := 0, cells := 0, slots := 0, locals := 0 } : Room) D (tyA cyI cyJ cyZ cyB cyO) [.ref aA, .int x1] (w_X6_byteAt cyI cyJ cyZ cyB cyO aA aA_bytes vA_size vA_token vA_start vA_end vA_number cA_bytes) (w_X6_byteAt cyI cyJ cyZ cyB cyO aA aA_bytes vA_size vA_token vA_start vA_end vA_number cA_bytes) out := by
  refine Mi.mk (cc := cX6_byteAt) (maxL := 2) (rt := .int) (own := RX6) (by decide) rfl rfl (Nat.le_of_ble_eq_true rfl) ?_
  intro p e s m args below meth c A Q F hK hP hD hA hret ls hl
  obtain ⟨hx, hb, hml, hown, hts⟩ := id F
  have hS : va_S A s.heap s.heap [] := va_S.rf
  have hl : lv_has ls 2 [(0, .ref aA), (1, .int x1)] := hl
  have in_X6 : ∀ w ∈ wsX60, w ∈ wsX6_byteAt := by decide +kernel
  have q1 := hts (Cond.fieldLink RX6 15 "ThirdFountain$Tape" "size" "I") (List.mem_of_getElem? (i := 1) rfl)
  have q2 := hts (Cond.fieldLink RX6 9 "ThirdFountain$Tape" "bytes" "[I") (List.mem_of_getElem? (i := 2) rfl)
  unfold f_X6_byteAt at h
  refine lv_iload_n hx hb dX6_byteAt_0 rfl (lv_at hl 1 rfl) ?_
  refine lv_if_lt (tgt := 27) hx hb dX6_byteAt_1 (by decide) (fun c1 => ?_) (fun c1 => ?_)
  · have h := br_pos c1 h
    refine lv_iconst (v := -1) hx hb dX6_byteAt_27 (by decide) ?_
    obtain rfl := Option.some.inj h
    exact hret _ _ _ _ _ hP hD hS dX6_byteAt_28 rfl rfl
  · have h := br_neg c1 h
    refine lv_iload_n hx hb dX6_byteAt_4 rfl (lv_at hl 1 rfl) ?_
    refine lv_aload_n hx hb dX6_byteAt_5 rfl (lv_at hl 0 rfl) ?_
    refine va_get (D := D) (ci := 5) (v := .int vA_size) (C := RX6) (T := TX6) (N := 6) hx hb hts in_X6 hown hK hP 0 rfl rfl 1 (by decide) q1 (fun _ h9 => h9) rfl dX6_byteAt_6 ?_
    refine lv_icmp_ge (tgt := 27) hx hb dX6_byteAt_9 (by decide) (fun c2 => ?_) (fun c2 => ?_)
    · have h := br_pos c2 h
      refine lv_iconst (v := -1) hx hb dX6_byteAt_27 (by decide) ?_
      obtain rfl := Option.some.inj h
      exact hret _ _ _ _ _ hP hD hS dX6_byteAt_28 rfl rfl
    · have h := br_neg c2 h
      refine lv_iload_n hx hb dX6_byteAt_12 rfl (lv_at hl 1 rfl) ?_
      refine lv_bipush (v := 120) hx hb dX6_byteAt_13 (by decide) ?_
      refine lv_icmp_ge (tgt := 27) hx hb dX6_byteAt_15 (by decide) (fun c3 => ?_) (fun c3 => ?_)
      · have h := br_pos c3 h
        refine lv_iconst (v := -1) hx hb dX6_byteAt_27 (by decide) ?_
        obtain rfl := Option.some.inj h
        exact hret _ _ _ _ _ hP hD hS dX6_byteAt_28 rfl rfl
      · have h := br_neg c3 h
        refine lv_aload_n hx hb dX6_byteAt_18 rfl (lv_at hl 0 rfl) ?_
        refine va_get (D := D) (ci := 5) (v := .ref aA_bytes) (C := RX6) (T := TX6) (N := 6) hx hb hts in_X6 hown hK hP 0 rfl rfl 0 (by decide) q2 (fun _ h9 => h9) rfl dX6_byteAt_19 ?_
        refine lv_iload_n hx hb dX6_byteAt_22 rfl (lv_at hl 1 rfl) ?_
        obtain ⟨g4, h⟩ := gd_some h
        refine va_iald hx hb hK hP 1 0 rfl rfl g4 dX6_byteAt_23 ?_
        refine lv_goto (tgt := 28) hx hb dX6_byteAt_24 (by decide) ?_
        obtain rfl := Option.some.inj h
        exact hret _ _ _ _ _ hP hD hS dX6_byteAt_28 rfl rfl
/-! ===== X6_beginsAt ===== -/
def w_X6_beginsAt (cyI cyJ cyZ cyB cyO : ClassId) (aA aA_bytes : Nat) (vA_size : Int32) (vA_token : Int32) (vA_start : Int32) (vA_end : Int32) (vA_number : Int32) (cA_bytes : Nat → Int32) : va_W := [(aA, .inr (5, [.ref aA_bytes, .int vA_size, .int vA_token, .int vA_start, .int vA_end, .int vA_number])), (aA_bytes, .inl (cyI, 120, .inl cA_bytes))]
set_option maxHeartbeats 4000000 in
set_option maxRecDepth 100000 in
theorem t_X6_beginsAt (l : Launch) (D : va_G) (cyI cyJ cyZ cyB cyO : ClassId) (aA aA_bytes : Nat) (vA_size : Int32) (vA_token : Int32) (vA_start : Int32) (vA_end : Int32) (vA_number : Int32) (cA_bytes : Nat → Int32) (x1 : Int32) (out : Int32) (h : f_X6_beginsAt x1 vA_size cA_bytes = some out) : Mi l yX6_beginsAt wsX6_beginsAt ({ frames := 1, cells := 0, slots := 0, locals := 21 } : Room) D (tyA cyI cyJ cyZ cyB cyO) [.ref aA, .int x1] (w_X6_beginsAt cyI cyJ cyZ cyB cyO aA aA_bytes vA_size vA_token vA_start vA_end vA_number cA_bytes) (w_X6_beginsAt cyI cyJ cyZ cyB cyO aA aA_bytes vA_size vA_token vA_start vA_end vA_number cA_bytes) out := by
  refine Mi.mk (cc := cX6_beginsAt) (maxL := 3) (rt := .int) (own := RX6) (by decide) rfl rfl (Nat.le_of_ble_eq_true rfl) ?_
  intro p e s m args below meth c A Q F hK hP hD hA hret ls hl
  obtain ⟨hx, hb, hml, hown, hts⟩ := id F
  have hS : va_S A s.heap s.heap [] := va_S.rf
  have hl : lv_has ls 3 [(0, .ref aA), (1, .int x1)] := hl
  have q1 := hts (Cond.methodLink RX6 78 yX6_byteAt) (List.mem_of_getElem? (i := 1) rfl)
  unfold f_X6_beginsAt at h
  refine lv_aload_n hx hb dX6_beginsAt_0 rfl (lv_at hl 0 rfl) ?_
  refine lv_iload_n hx hb dX6_beginsAt_1 rfl (lv_at hl 1 rfl) ?_
  obtain ⟨u1, hu1, h⟩ := bd_some h
  refine cl_Vi (rest := []) F hK hP hD hS hA hl (t_X6_byteAt l D cyI cyJ cyZ cyB cyO aA aA_bytes vA_size vA_token vA_start vA_end vA_number cA_bytes x1 u1 hu1) (cwV 1 hts gX6_beginsAt_X6_byteAt rfl rfl rfl (by decide +kernel) ⟨Nat.le_of_ble_eq_true rfl, Nat.le_of_ble_eq_true rfl⟩) 0 [0, 1] [1, 2] [] (w_X6_beginsAt cyI cyJ cyZ cyB cyO aA aA_bytes vA_size vA_token vA_start vA_end vA_number cA_bytes) rfl rfl rfl rfl rfl (by decide +kernel) rfl rfl (Nat.le_of_ble_eq_true rfl) ⟨Nat.zero_le _, Nat.zero_le _⟩ dX6_beginsAt_2 (fun H locs hP hD hS => ?_)
  refine lv_istore_n (lv' := [(2, .int u1), (0, .ref aA), (1, .int x1)]) hx hb dX6_beginsAt_5 rfl hl (by decide) rfl (fun ls hl => ?_)
  refine lv_iload_n hx hb dX6_beginsAt_6 rfl (lv_at hl 0 rfl) ?_
  refine lv_iconst (v := -1) hx hb dX6_beginsAt_7 (by decide) ?_
  refine lv_icmp_ne (tgt := 13) hx hb dX6_beginsAt_8 (by decide) (fun c2 => ?_) (fun c2 => ?_)
  · have h := br_neg c2 h
    refine lv_iload_n hx hb dX6_beginsAt_13 rfl (lv_at hl 0 rfl) ?_
    refine lv_bipush (v := 97) hx hb dX6_beginsAt_14 (by decide) ?_
    refine lv_icmp_lt (tgt := 27) hx hb dX6_beginsAt_16 (by decide) (fun c3 => ?_) (fun c3 => ?_)
    · have h := br_pos c3 h
      refine lv_iload_n hx hb dX6_beginsAt_27 rfl (lv_at hl 0 rfl) ?_
      refine lv_bipush (v := 48) hx hb dX6_beginsAt_28 (by decide) ?_
      have j41 : ∀ (y2 : Int32) (H : Heap) (locs : List Loc) (ls : Array Slot), va_P D vwCl (w_X6_beginsAt cyI cyJ cyZ cyB cyO aA aA_bytes vA_size vA_token vA_start vA_end vA_number cA_bytes) H → va_D A (w_X6_beginsAt cyI cyJ cyZ cyB cyO aA aA_bytes vA_size vA_token vA_start vA_end vA_number cA_bytes) → va_S A s.heap H locs → lv_has ls 3 [(2, .int y2)] → f_X6_beginsAt_J41 x1 vA_size cA_bytes y2 = some out → W p l e ({ frames := 1, cells := 0, slots := 0, locals := 21 } : Room) s m args below meth c H locs 0 0 Q (F0 m 41 ls []) := by
        intro y2 H locs ls hP hD hS hl h
        unfold f_X6_beginsAt_J41 at h
        refine lv_iload_n hx hb dX6_beginsAt_41 rfl (lv_at hl 0 rfl) ?_
        refine lv_bipush (v := 32) hx hb dX6_beginsAt_42 (by decide) ?_
        refine lv_icmp_ne (tgt := 49) hx hb dX6_beginsAt_44 (by decide) (fun c4 => ?_) (fun c4 => ?_)
        · have h := br_neg c4 h
          refine lv_iload_n hx hb dX6_beginsAt_49 rfl (lv_at hl 0 rfl) ?_
          refine lv_bipush (v := 59) hx hb dX6_beginsAt_50 (by decide) ?_
          refine lv_icmp_ne (tgt := 59) hx hb dX6_beginsAt_52 (by decide) (fun c5 => ?_) (fun c5 => ?_)
          · have h := br_neg c5 h
            refine lv_iconst (v := 4) hx hb dX6_beginsAt_59 (by decide) ?_
            obtain rfl := Option.some.inj h
            exact hret _ _ _ _ _ hP hD hS dX6_beginsAt_60 rfl rfl
          · have h := br_pos c5 h
            refine lv_iconst (v := 3) hx hb dX6_beginsAt_55 (by decide) ?_
            refine lv_goto (tgt := 60) hx hb dX6_beginsAt_56 (by decide) ?_
            obtain rfl := Option.some.inj h
            exact hret _ _ _ _ _ hP hD hS dX6_beginsAt_60 rfl rfl
        · have h := br_pos c4 h
          refine lv_iconst (v := 5) hx hb dX6_beginsAt_47 (by decide) ?_
          obtain rfl := Option.some.inj h
          exact hret _ _ _ _ _ hP hD hS dX6_beginsAt_48 rfl rfl
      refine lv_icmp_lt (tgt := 41) hx hb dX6_beginsAt_30 (by decide) (fun c6 => ?_) (fun c6 => ?_)
      · have h := br_pos c6 h
        exact j41 u1 _ _ _ hP hD hS (lv_sub hl [0] rfl) h
      · have h := br_neg c6 h
        refine lv_iload_n hx hb dX6_beginsAt_33 rfl (lv_at hl 0 rfl) ?_
        refine lv_bipush (v := 57) hx hb dX6_beginsAt_34 (by decide) ?_
        refine lv_icmp_gt (tgt := 41) hx hb dX6_beginsAt_36 (by decide) (fun c7 => ?_) (fun c7 => ?_)
        · have h := br_pos c7 h
          exact j41 u1 _ _ _ hP hD hS (lv_sub hl [0] rfl) h
        · have h := br_neg c7 h
          refine lv_iconst (v := 2) hx hb dX6_beginsAt_39 (by decide) ?_
          obtain rfl := Option.some.inj h
          exact hret _ _ _ _ _ hP hD hS dX6_beginsAt_40 rfl rfl
    · have h := br_neg c3 h
      refine lv_iload_n hx hb dX6_beginsAt_19 rfl (lv_at hl 0 rfl) ?_
      refine lv_bipush (v := 122) hx hb dX6_beginsAt_20 (by decide) ?_
      refine lv_icmp_gt (tgt := 27) hx hb dX6_beginsAt_22 (by decide) (fun c8 => ?_) (fun c8 => ?_)
      · have h := br_pos c8 h
        refine lv_iload_n hx hb dX6_beginsAt_27 rfl (lv_at hl 0 rfl) ?_
        refine lv_bipush (v := 48) hx hb dX6_beginsAt_28 (by decide) ?_
        have j41 : ∀ (y2 : Int32) (H : Heap) (locs : List Loc) (ls : Array Slot), va_P D vwCl (w_X6_beginsAt cyI cyJ cyZ cyB cyO aA aA_bytes vA_size vA_token vA_start vA_end vA_number cA_bytes) H → va_D A (w_X6_beginsAt cyI cyJ cyZ cyB cyO aA aA_bytes vA_size vA_token vA_start vA_end vA_number cA_bytes) → va_S A s.heap H locs → lv_has ls 3 [(2, .int y2)] → f_X6_beginsAt_J41 x1 vA_size cA_bytes y2 = some out → W p l e ({ frames := 1, cells := 0, slots := 0, locals := 21 } : Room) s m args below meth c H locs 0 0 Q (F0 m 41 ls []) := by
          intro y2 H locs ls hP hD hS hl h
          unfold f_X6_beginsAt_J41 at h
          refine lv_iload_n hx hb dX6_beginsAt_41 rfl (lv_at hl 0 rfl) ?_
          refine lv_bipush (v := 32) hx hb dX6_beginsAt_42 (by decide) ?_
          refine lv_icmp_ne (tgt := 49) hx hb dX6_beginsAt_44 (by decide) (fun c9 => ?_) (fun c9 => ?_)
          · have h := br_neg c9 h
            refine lv_iload_n hx hb dX6_beginsAt_49 rfl (lv_at hl 0 rfl) ?_
            refine lv_bipush (v := 59) hx hb dX6_beginsAt_50 (by decide) ?_
            refine lv_icmp_ne (tgt := 59) hx hb dX6_beginsAt_52 (by decide) (fun c10 => ?_) (fun c10 => ?_)
            · have h := br_neg c10 h
              refine lv_iconst (v := 4) hx hb dX6_beginsAt_59 (by decide) ?_
              obtain rfl := Option.some.inj h
              exact hret _ _ _ _ _ hP hD hS dX6_beginsAt_60 rfl rfl
            · have h := br_pos c10 h
              refine lv_iconst (v := 3) hx hb dX6_beginsAt_55 (by decide) ?_
              refine lv_goto (tgt := 60) hx hb dX6_beginsAt_56 (by decide) ?_
              obtain rfl := Option.some.inj h
              exact hret _ _ _ _ _ hP hD hS dX6_beginsAt_60 rfl rfl
          · have h := br_pos c9 h
            refine lv_iconst (v := 5) hx hb dX6_beginsAt_47 (by decide) ?_
            obtain rfl := Option.some.inj h
            exact hret _ _ _ _ _ hP hD hS dX6_beginsAt_48 rfl rfl
        refine lv_icmp_lt (tgt := 41) hx hb dX6_beginsAt_30 (by decide) (fun c11 => ?_) (fun c11 => ?_)
        · have h := br_pos c11 h
          exact j41 u1 _ _ _ hP hD hS (lv_sub hl [0] rfl) h
        · have h := br_neg c11 h
          refine lv_iload_n hx hb dX6_beginsAt_33 rfl (lv_at hl 0 rfl) ?_
          refine lv_bipush (v := 57) hx hb dX6_beginsAt_34 (by decide) ?_
          refine lv_icmp_gt (tgt := 41) hx hb dX6_beginsAt_36 (by decide) (fun c12 => ?_) (fun c12 => ?_)
          · have h := br_pos c12 h
            exact j41 u1 _ _ _ hP hD hS (lv_sub hl [0] rfl) h
          · have h := br_neg c12 h
            refine lv_iconst (v := 2) hx hb dX6_beginsAt_39 (by decide) ?_
            obtain rfl := Option.some.inj h
            exact hret _ _ _ _ _ hP hD hS dX6_beginsAt_40 rfl rfl
      · have h := br_neg c8 h
        refine lv_iconst (v := 1) hx hb dX6_beginsAt_25 (by decide) ?_
        obtain rfl := Option.some.inj h
        exact hret _ _ _ _ _ hP hD hS dX6_beginsAt_26 rfl rfl
  · have h := br_pos c2 h
    refine lv_iconst (v := 0) hx hb dX6_beginsAt_11 (by decide) ?_
    obtain rfl := Option.some.inj h
    exact hret _ _ _ _ _ hP hD hS dX6_beginsAt_12 rfl rfl
/-! ===== X6_advance ===== -/
def w_X6_advance (cyI cyJ cyZ cyB cyO : ClassId) (aA aA_bytes : Nat) (vA_size : Int32) (vA_token : Int32) (vA_start : Int32) (vA_end : Int32) (vA_number : Int32) (cA_bytes : Nat → Int32) : va_W := [(aA, .inr (5, [.ref aA_bytes, .int vA_size, .int vA_token, .int vA_start, .int vA_end, .int vA_number])), (aA_bytes, .inl (cyI, 120, .inl cA_bytes))]
set_option maxHeartbeats 4000000 in
set_option maxRecDepth 100000 in
theorem t_X6_advance (l : Launch) (D : va_G) (cyI cyJ cyZ cyB cyO : ClassId) (aA aA_bytes : Nat) (vA_size : Int32) (vA_token : Int32) (vA_start : Int32) (vA_end : Int32) (vA_number : Int32) (cA_bytes : Nat → Int32) (out : Int32 × Int32 × Int32) (h : f_X6_advance vA_size vA_token vA_start vA_end cA_bytes = some out) : Mv l yX6_advance wsX6_advance ({ frames := 2, cells := 0, slots := 0, locals := 43 } : Room) D (tyA cyI cyJ cyZ cyB cyO) [.ref aA] (w_X6_advance cyI cyJ cyZ cyB cyO aA aA_bytes vA_size vA_token vA_start vA_end vA_number cA_bytes) (w_X6_advance cyI cyJ cyZ cyB cyO aA aA_bytes vA_size out.1 out.2.1 out.2.2 vA_number cA_bytes) := by
  refine Mv.mk (cc := cX6_advance) (maxL := 3) (own := RX6) (by decide) rfl rfl (Nat.le_of_ble_eq_true rfl) ?_
  intro p e s m args below meth c A Q F hK hP hD hA hret ls hl
  obtain ⟨hx, hb, hml, hown, hts⟩ := id F
  have hS : va_S A s.heap s.heap [] := va_S.rf
  have hl : lv_has ls 3 [(0, .ref aA)] := hl
  have in_X6 : ∀ w ∈ wsX60, w ∈ wsX6_advance := by decide +kernel
  have q1 := hts (Cond.fieldLink RX6 19 "ThirdFountain$Tape" "end" "I") (List.mem_of_getElem? (i := 1) rfl)
  have q2 := hts (Cond.fieldLink RX6 32 "ThirdFountain$Tape" "start" "I") (List.mem_of_getElem? (i := 2) rfl)
  have q4 := hts (Cond.methodLink RX6 118 yX6_beginsAt) (List.mem_of_getElem? (i := 4) rfl)
  have q3 := hts (Cond.fieldLink RX6 29 "ThirdFountain$Tape" "token" "I") (List.mem_of_getElem? (i := 3) rfl)
  unfold f_X6_advance at h
  refine lv_aload_n hx hb dX6_advance_0 rfl (lv_at hl 0 rfl) ?_
  refine lv_aload_n hx hb dX6_advance_1 rfl (lv_at hl 0 rfl) ?_
  refine va_get (D := D) (ci := 5) (v := .int vA_end) (C := RX6) (T := TX6) (N := 6) hx hb hts in_X6 hown hK hP 0 rfl rfl 4 (by decide) q1 (fun _ h9 => h9) rfl dX6_advance_2 ?_
  refine va_put (D := D) (ci := 5) (v := .int vA_end) (ty := .int) (C := RX6) (T := TX6) (N := 6) hx hb hts in_X6 tyX6 tyX6_ok nmX6 hown hK hP hD hS 0 rfl rfl 3 (by decide) q2 (fun _ h9 => h9) rfl (by decide +kernel) rfl rfl (Nat.le_of_ble_eq_true rfl) dX6_advance_5 (fun H locs hP hD hS => ?_)
  have hP : va_P D vwCl (w_X6_advance cyI cyJ cyZ cyB cyO aA aA_bytes vA_size vA_token vA_end vA_end vA_number cA_bytes) H := hP
  have hD : va_D A (w_X6_advance cyI cyJ cyZ cyB cyO aA aA_bytes vA_size vA_token vA_end vA_end vA_number cA_bytes) := hD
  refine lv_iconst (v := 0) hx hb dX6_advance_8 (by decide) ?_
  refine lv_istore_n (lv' := [(1, .int (0 : Int32)), (0, .ref aA)]) hx hb dX6_advance_9 rfl hl (by decide) rfl (fun ls hl => ?_)
  have lp10 : ∀ (k10 : Nat) (y1 : Int32) (vA_token : Int32) (vA_start : Int32) (vA_end : Int32) (H : Heap) (locs : List Loc) (ls : Array Slot), va_P D vwCl (w_X6_advance cyI cyJ cyZ cyB cyO aA aA_bytes vA_size vA_token vA_start vA_end vA_number cA_bytes) H → va_D A (w_X6_advance cyI cyJ cyZ cyB cyO aA aA_bytes vA_size vA_token vA_start vA_end vA_number cA_bytes) → va_S A s.heap H locs → lv_has ls 3 [(1, .int y1), (0, .ref aA)] → (f_X6_advance_L10 vA_size cA_bytes k10) (y1, vA_token, vA_start, vA_end) = some out → W p l e ({ frames := 2, cells := 0, slots := 0, locals := 43 } : Room) s m args below meth c H locs 0 0 Q (F0 m 10 ls []) := by
    intro k10
    induction k10 with
    | zero => intro y1 vA_token vA_start vA_end H locs ls hP hD hS hl h; cases h
    | succ k10 ih10 =>
      intro y1 vA_token vA_start vA_end H locs ls hP hD hS hl h
      have h : f_X6_advance_L10_b vA_size cA_bytes (f_X6_advance_L10 vA_size cA_bytes k10) y1 vA_token vA_start vA_end = some out := h
      unfold f_X6_advance_L10_b at h
      refine lv_iload_n hx hb dX6_advance_10 rfl (lv_at hl 0 rfl) ?_
      refine lv_bipush (v := 120) hx hb dX6_advance_11 (by decide) ?_
      have j44 : ∀ (vA_token : Int32) (vA_start : Int32) (vA_end : Int32) (H : Heap) (locs : List Loc) (ls : Array Slot), va_P D vwCl (w_X6_advance cyI cyJ cyZ cyB cyO aA aA_bytes vA_size vA_token vA_start vA_end vA_number cA_bytes) H → va_D A (w_X6_advance cyI cyJ cyZ cyB cyO aA aA_bytes vA_size vA_token vA_start vA_end vA_number cA_bytes) → va_S A s.heap H locs → lv_has ls 3 [(0, .ref aA)] → f_X6_advance_J44 vA_size cA_bytes vA_token vA_start vA_end = some out → W p l e ({ frames := 2, cells := 0, slots := 0, locals := 43 } : Room) s m args below meth c H locs 0 0 Q (F0 m 44 ls []) := by
        intro vA_token vA_start vA_end H locs ls hP hD hS hl h
        unfold f_X6_advance_J44 at h
        refine lv_aload_n hx hb dX6_advance_44 rfl (lv_at hl 0 rfl) ?_
        refine lv_aload_n hx hb dX6_advance_45 rfl (lv_at hl 0 rfl) ?_
        refine va_get (D := D) (ci := 5) (v := .int vA_start) (C := RX6) (T := TX6) (N := 6) hx hb hts in_X6 hown hK hP 0 rfl rfl 3 (by decide) q2 (fun _ h9 => h9) rfl dX6_advance_46 ?_
        refine va_put (D := D) (ci := 5) (v := .int vA_start) (ty := .int) (C := RX6) (T := TX6) (N := 6) hx hb hts in_X6 tyX6 tyX6_ok nmX6 hown hK hP hD hS 0 rfl rfl 4 (by decide) q1 (fun _ h9 => h9) rfl (by decide +kernel) rfl rfl (Nat.le_of_ble_eq_true rfl) dX6_advance_49 (fun H locs hP hD hS => ?_)
        have hP : va_P D vwCl (w_X6_advance cyI cyJ cyZ cyB cyO aA aA_bytes vA_size vA_token vA_start vA_start vA_number cA_bytes) H := hP
        have hD : va_D A (w_X6_advance cyI cyJ cyZ cyB cyO aA aA_bytes vA_size vA_token vA_start vA_start vA_number cA_bytes) := hD
        refine lv_aload_n hx hb dX6_advance_52 rfl (lv_at hl 0 rfl) ?_
        refine lv_aload_n hx hb dX6_advance_53 rfl (lv_at hl 0 rfl) ?_
        refine lv_aload_n hx hb dX6_advance_54 rfl (lv_at hl 0 rfl) ?_
        refine va_get (D := D) (ci := 5) (v := .int vA_start) (C := RX6) (T := TX6) (N := 6) hx hb hts in_X6 hown hK hP 0 rfl rfl 3 (by decide) q2 (fun _ h9 => h9) rfl dX6_advance_55 ?_
        obtain ⟨u1, hu1, h⟩ := bd_some h
        refine cl_Vi (rest := [.ref aA]) F hK hP hD hS hA hl (t_X6_beginsAt l D cyI cyJ cyZ cyB cyO aA aA_bytes vA_size vA_token vA_start vA_start vA_number cA_bytes vA_start u1 hu1) (cwV 1 hts gX6_advance_X6_beginsAt rfl rfl rfl (by decide +kernel) ⟨Nat.le_of_ble_eq_true rfl, Nat.le_of_ble_eq_true rfl⟩) 0 [0, 1] [1, 2] [] (w_X6_advance cyI cyJ cyZ cyB cyO aA aA_bytes vA_size vA_token vA_start vA_start vA_number cA_bytes) rfl rfl rfl rfl rfl (by decide +kernel) rfl rfl (Nat.le_of_ble_eq_true rfl) ⟨Nat.zero_le _, Nat.zero_le _⟩ dX6_advance_58 (fun H locs hP hD hS => ?_)
        refine va_put (D := D) (ci := 5) (v := .int u1) (ty := .int) (C := RX6) (T := TX6) (N := 6) hx hb hts in_X6 tyX6 tyX6_ok nmX6 hown hK hP hD hS 0 rfl rfl 2 (by decide) q3 (fun _ h9 => h9) rfl (by decide +kernel) rfl rfl (Nat.le_of_ble_eq_true rfl) dX6_advance_61 (fun H locs hP hD hS => ?_)
        have hP : va_P D vwCl (w_X6_advance cyI cyJ cyZ cyB cyO aA aA_bytes vA_size u1 vA_start vA_start vA_number cA_bytes) H := hP
        have hD : va_D A (w_X6_advance cyI cyJ cyZ cyB cyO aA aA_bytes vA_size u1 vA_start vA_start vA_number cA_bytes) := hD
        refine lv_aload_n hx hb dX6_advance_64 rfl (lv_at hl 0 rfl) ?_
        refine va_get (D := D) (ci := 5) (v := .int u1) (C := RX6) (T := TX6) (N := 6) hx hb hts in_X6 hown hK hP 0 rfl rfl 2 (by decide) q3 (fun _ h9 => h9) rfl dX6_advance_65 ?_
        have j81 : ∀ (vA_token : Int32) (vA_start : Int32) (vA_end : Int32) (H : Heap) (locs : List Loc) (ls : Array Slot), va_P D vwCl (w_X6_advance cyI cyJ cyZ cyB cyO aA aA_bytes vA_size vA_token vA_start vA_end vA_number cA_bytes) H → va_D A (w_X6_advance cyI cyJ cyZ cyB cyO aA aA_bytes vA_size vA_token vA_start vA_end vA_number cA_bytes) → va_S A s.heap H locs → lv_has ls 3 [(0, .ref aA)] → f_X6_advance_J81 vA_size cA_bytes vA_token vA_start vA_end = some out → W p l e ({ frames := 2, cells := 0, slots := 0, locals := 43 } : Room) s m args below meth c H locs 0 0 Q (F0 m 81 ls []) := by
          intro vA_token vA_start vA_end H locs ls hP hD hS hl h
          unfold f_X6_advance_J81 at h
          refine lv_aload_n hx hb dX6_advance_81 rfl (lv_at hl 0 rfl) ?_
          refine va_get (D := D) (ci := 5) (v := .int vA_token) (C := RX6) (T := TX6) (N := 6) hx hb hts in_X6 hown hK hP 0 rfl rfl 2 (by decide) q3 (fun _ h9 => h9) rfl dX6_advance_82 ?_
          refine lv_iconst (v := 1) hx hb dX6_advance_85 (by decide) ?_
          refine lv_icmp_eq (tgt := 97) hx hb dX6_advance_86 (by decide) (fun c2 => ?_) (fun c2 => ?_)
          · have h := br_pos c2 h
            refine lv_iconst (v := 1) hx hb dX6_advance_97 (by decide) ?_
            refine lv_goto (tgt := 102) hx hb dX6_advance_98 (by decide) ?_
            refine lv_istore_n (lv' := [(1, .int (1 : Int32)), (0, .ref aA)]) hx hb dX6_advance_102 rfl hl (by decide) rfl (fun ls hl => ?_)
            refine lv_iconst (v := 0) hx hb dX6_advance_103 (by decide) ?_
            refine lv_istore_n (lv' := [(2, .int (0 : Int32)), (1, .int (1 : Int32)), (0, .ref aA)]) hx hb dX6_advance_104 rfl hl (by decide) rfl (fun ls hl => ?_)
            have lp105 : ∀ (k105 : Nat) (y1 : Int32) (y2 : Int32) (vA_token : Int32) (vA_start : Int32) (vA_end : Int32) (H : Heap) (locs : List Loc) (ls : Array Slot), va_P D vwCl (w_X6_advance cyI cyJ cyZ cyB cyO aA aA_bytes vA_size vA_token vA_start vA_end vA_number cA_bytes) H → va_D A (w_X6_advance cyI cyJ cyZ cyB cyO aA aA_bytes vA_size vA_token vA_start vA_end vA_number cA_bytes) → va_S A s.heap H locs → lv_has ls 3 [(1, .int y1), (2, .int y2), (0, .ref aA)] → (f_X6_advance_L105 vA_size cA_bytes k105) (y1, y2, vA_token, vA_start, vA_end) = some out → W p l e ({ frames := 2, cells := 0, slots := 0, locals := 43 } : Room) s m args below meth c H locs 0 0 Q (F0 m 105 ls []) := by
              intro k105
              induction k105 with
              | zero => intro y1 y2 vA_token vA_start vA_end H locs ls hP hD hS hl h; cases h
              | succ k105 ih105 =>
                intro y1 y2 vA_token vA_start vA_end H locs ls hP hD hS hl h
                have h : f_X6_advance_L105_b vA_size cA_bytes (f_X6_advance_L105 vA_size cA_bytes k105) y1 y2 vA_token vA_start vA_end = some out := h
                unfold f_X6_advance_L105_b at h
                refine lv_iload_n hx hb dX6_advance_105 rfl (lv_at hl 1 rfl) ?_
                refine lv_bipush (v := 120) hx hb dX6_advance_106 (by decide) ?_
                refine lv_icmp_ge (tgt := 146) hx hb dX6_advance_108 (by decide) (fun c3 => ?_) (fun c3 => ?_)
                · have h := br_pos c3 h
                  obtain rfl := Option.some.inj h
                  exact hret _ _ _ _ hP hD hS dX6_advance_146 
                · have h := br_neg c3 h
                  refine lv_iload_n hx hb dX6_advance_111 rfl (lv_at hl 0 rfl) ?_
                  refine lv_if_eq (tgt := 146) hx hb dX6_advance_112 (by decide) (fun c4 => ?_) (fun c4 => ?_)
                  · have h := br_pos c4 h
                    obtain rfl := Option.some.inj h
                    exact hret _ _ _ _ hP hD hS dX6_advance_146 
                  · have h := br_neg c4 h
                    refine lv_aload_n hx hb dX6_advance_115 rfl (lv_at hl 2 rfl) ?_
                    refine lv_aload_n hx hb dX6_advance_116 rfl (lv_at hl 2 rfl) ?_
                    refine va_get (D := D) (ci := 5) (v := .int vA_end) (C := RX6) (T := TX6) (N := 6) hx hb hts in_X6 hown hK hP 0 rfl rfl 4 (by decide) q1 (fun _ h9 => h9) rfl dX6_advance_117 ?_
                    obtain ⟨u5, hu5, h⟩ := bd_some h
                    refine cl_Vi (rest := []) F hK hP hD hS hA hl (t_X6_beginsAt l D cyI cyJ cyZ cyB cyO aA aA_bytes vA_size vA_token vA_start vA_end vA_number cA_bytes vA_end u5 hu5) (cwV 1 hts gX6_advance_X6_beginsAt rfl rfl rfl (by decide +kernel) ⟨Nat.le_of_ble_eq_true rfl, Nat.le_of_ble_eq_true rfl⟩) 0 [0, 1] [1, 2] [] (w_X6_advance cyI cyJ cyZ cyB cyO aA aA_bytes vA_size vA_token vA_start vA_end vA_number cA_bytes) rfl rfl rfl rfl rfl (by decide +kernel) rfl rfl (Nat.le_of_ble_eq_true rfl) ⟨Nat.zero_le _, Nat.zero_le _⟩ dX6_advance_120 (fun H locs hP hD hS => ?_)
                    refine lv_aload_n hx hb dX6_advance_123 rfl (lv_at hl 2 rfl) ?_
                    refine va_get (D := D) (ci := 5) (v := .int vA_token) (C := RX6) (T := TX6) (N := 6) hx hb hts in_X6 hown hK hP 0 rfl rfl 2 (by decide) q3 (fun _ h9 => h9) rfl dX6_advance_124 ?_
                    refine lv_icmp_ne (tgt := 146) hx hb dX6_advance_127 (by decide) (fun c6 => ?_) (fun c6 => ?_)
                    · have h := br_neg c6 h
                      obtain rfl := Option.some.inj h
                      exact hret _ _ _ _ hP hD hS dX6_advance_146 
                    · have h := br_pos c6 h
                      refine lv_aload_n hx hb dX6_advance_130 rfl (lv_at hl 2 rfl) ?_
                      refine lv_dup hx hb dX6_advance_131 rfl ?_
                      refine va_get (D := D) (ci := 5) (v := .int vA_end) (C := RX6) (T := TX6) (N := 6) hx hb hts in_X6 hown hK hP 0 rfl rfl 4 (by decide) q1 (fun _ h9 => h9) rfl dX6_advance_132 ?_
                      refine lv_iconst (v := 1) hx hb dX6_advance_135 (by decide) ?_
                      refine lv_iadd hx hb dX6_advance_136 ?_
                      refine va_put (D := D) (ci := 5) (v := .int (vA_end + (1 : Int32))) (ty := .int) (C := RX6) (T := TX6) (N := 6) hx hb hts in_X6 tyX6 tyX6_ok nmX6 hown hK hP hD hS 0 rfl rfl 4 (by decide) q1 (fun _ h9 => h9) rfl (by decide +kernel) rfl rfl (Nat.le_of_ble_eq_true rfl) dX6_advance_137 (fun H locs hP hD hS => ?_)
                      have hP : va_P D vwCl (w_X6_advance cyI cyJ cyZ cyB cyO aA aA_bytes vA_size vA_token vA_start (vA_end + (1 : Int32)) vA_number cA_bytes) H := hP
                      have hD : va_D A (w_X6_advance cyI cyJ cyZ cyB cyO aA aA_bytes vA_size vA_token vA_start (vA_end + (1 : Int32)) vA_number cA_bytes) := hD
                      refine lv_iinc (v := y2 + 1) (lv' := [(2, .int (y2 + 1)), (1, .int y1), (0, .ref aA)]) hx hb dX6_advance_140 hl (k := 1) rfl rfl (by decide) rfl (fun ls hl => ?_)
                      refine lv_goto (tgt := 105) hx hb dX6_advance_143 (by decide) ?_
                      exact ih105 y1 (y2 + 1) vA_token vA_start (vA_end + (1 : Int32)) _ _ _ hP hD hS (lv_sub hl [1, 0, 2] rfl) h
            exact lp105 FU (1 : Int32) (0 : Int32) vA_token vA_start vA_end _ _ _ hP hD hS (lv_sub hl [1, 0, 2] rfl) h
          · have h := br_neg c2 h
            refine lv_aload_n hx hb dX6_advance_89 rfl (lv_at hl 0 rfl) ?_
            refine va_get (D := D) (ci := 5) (v := .int vA_token) (C := RX6) (T := TX6) (N := 6) hx hb hts in_X6 hown hK hP 0 rfl rfl 2 (by decide) q3 (fun _ h9 => h9) rfl dX6_advance_90 ?_
            refine lv_iconst (v := 2) hx hb dX6_advance_93 (by decide) ?_
            refine lv_icmp_ne (tgt := 101) hx hb dX6_advance_94 (by decide) (fun c7 => ?_) (fun c7 => ?_)
            · have h := br_neg c7 h
              refine lv_iconst (v := 0) hx hb dX6_advance_101 (by decide) ?_
              refine lv_istore_n (lv' := [(1, .int (0 : Int32)), (0, .ref aA)]) hx hb dX6_advance_102 rfl hl (by decide) rfl (fun ls hl => ?_)
              refine lv_iconst (v := 0) hx hb dX6_advance_103 (by decide) ?_
              refine lv_istore_n (lv' := [(2, .int (0 : Int32)), (1, .int (0 : Int32)), (0, .ref aA)]) hx hb dX6_advance_104 rfl hl (by decide) rfl (fun ls hl => ?_)
              have lp105 : ∀ (k105 : Nat) (y1 : Int32) (y2 : Int32) (vA_token : Int32) (vA_start : Int32) (vA_end : Int32) (H : Heap) (locs : List Loc) (ls : Array Slot), va_P D vwCl (w_X6_advance cyI cyJ cyZ cyB cyO aA aA_bytes vA_size vA_token vA_start vA_end vA_number cA_bytes) H → va_D A (w_X6_advance cyI cyJ cyZ cyB cyO aA aA_bytes vA_size vA_token vA_start vA_end vA_number cA_bytes) → va_S A s.heap H locs → lv_has ls 3 [(1, .int y1), (2, .int y2), (0, .ref aA)] → (f_X6_advance_L105 vA_size cA_bytes k105) (y1, y2, vA_token, vA_start, vA_end) = some out → W p l e ({ frames := 2, cells := 0, slots := 0, locals := 43 } : Room) s m args below meth c H locs 0 0 Q (F0 m 105 ls []) := by
                intro k105
                induction k105 with
                | zero => intro y1 y2 vA_token vA_start vA_end H locs ls hP hD hS hl h; cases h
                | succ k105 ih105 =>
                  intro y1 y2 vA_token vA_start vA_end H locs ls hP hD hS hl h
                  have h : f_X6_advance_L105_b vA_size cA_bytes (f_X6_advance_L105 vA_size cA_bytes k105) y1 y2 vA_token vA_start vA_end = some out := h
                  unfold f_X6_advance_L105_b at h
                  refine lv_iload_n hx hb dX6_advance_105 rfl (lv_at hl 1 rfl) ?_
                  refine lv_bipush (v := 120) hx hb dX6_advance_106 (by decide) ?_
                  refine lv_icmp_ge (tgt := 146) hx hb dX6_advance_108 (by decide) (fun c8 => ?_) (fun c8 => ?_)
                  · have h := br_pos c8 h
                    obtain rfl := Option.some.inj h
                    exact hret _ _ _ _ hP hD hS dX6_advance_146 
                  · have h := br_neg c8 h
                    refine lv_iload_n hx hb dX6_advance_111 rfl (lv_at hl 0 rfl) ?_
                    refine lv_if_eq (tgt := 146) hx hb dX6_advance_112 (by decide) (fun c9 => ?_) (fun c9 => ?_)
                    · have h := br_pos c9 h
                      obtain rfl := Option.some.inj h
                      exact hret _ _ _ _ hP hD hS dX6_advance_146 
                    · have h := br_neg c9 h
                      refine lv_aload_n hx hb dX6_advance_115 rfl (lv_at hl 2 rfl) ?_
                      refine lv_aload_n hx hb dX6_advance_116 rfl (lv_at hl 2 rfl) ?_
                      refine va_get (D := D) (ci := 5) (v := .int vA_end) (C := RX6) (T := TX6) (N := 6) hx hb hts in_X6 hown hK hP 0 rfl rfl 4 (by decide) q1 (fun _ h9 => h9) rfl dX6_advance_117 ?_
                      obtain ⟨u10, hu10, h⟩ := bd_some h
                      refine cl_Vi (rest := []) F hK hP hD hS hA hl (t_X6_beginsAt l D cyI cyJ cyZ cyB cyO aA aA_bytes vA_size vA_token vA_start vA_end vA_number cA_bytes vA_end u10 hu10) (cwV 1 hts gX6_advance_X6_beginsAt rfl rfl rfl (by decide +kernel) ⟨Nat.le_of_ble_eq_true rfl, Nat.le_of_ble_eq_true rfl⟩) 0 [0, 1] [1, 2] [] (w_X6_advance cyI cyJ cyZ cyB cyO aA aA_bytes vA_size vA_token vA_start vA_end vA_number cA_bytes) rfl rfl rfl rfl rfl (by decide +kernel) rfl rfl (Nat.le_of_ble_eq_true rfl) ⟨Nat.zero_le _, Nat.zero_le _⟩ dX6_advance_120 (fun H locs hP hD hS => ?_)
                      refine lv_aload_n hx hb dX6_advance_123 rfl (lv_at hl 2 rfl) ?_
                      refine va_get (D := D) (ci := 5) (v := .int vA_token) (C := RX6) (T := TX6) (N := 6) hx hb hts in_X6 hown hK hP 0 rfl rfl 2 (by decide) q3 (fun _ h9 => h9) rfl dX6_advance_124 ?_
                      refine lv_icmp_ne (tgt := 146) hx hb dX6_advance_127 (by decide) (fun c11 => ?_) (fun c11 => ?_)
                      · have h := br_neg c11 h
                        obtain rfl := Option.some.inj h
                        exact hret _ _ _ _ hP hD hS dX6_advance_146 
                      · have h := br_pos c11 h
                        refine lv_aload_n hx hb dX6_advance_130 rfl (lv_at hl 2 rfl) ?_
                        refine lv_dup hx hb dX6_advance_131 rfl ?_
                        refine va_get (D := D) (ci := 5) (v := .int vA_end) (C := RX6) (T := TX6) (N := 6) hx hb hts in_X6 hown hK hP 0 rfl rfl 4 (by decide) q1 (fun _ h9 => h9) rfl dX6_advance_132 ?_
                        refine lv_iconst (v := 1) hx hb dX6_advance_135 (by decide) ?_
                        refine lv_iadd hx hb dX6_advance_136 ?_
                        refine va_put (D := D) (ci := 5) (v := .int (vA_end + (1 : Int32))) (ty := .int) (C := RX6) (T := TX6) (N := 6) hx hb hts in_X6 tyX6 tyX6_ok nmX6 hown hK hP hD hS 0 rfl rfl 4 (by decide) q1 (fun _ h9 => h9) rfl (by decide +kernel) rfl rfl (Nat.le_of_ble_eq_true rfl) dX6_advance_137 (fun H locs hP hD hS => ?_)
                        have hP : va_P D vwCl (w_X6_advance cyI cyJ cyZ cyB cyO aA aA_bytes vA_size vA_token vA_start (vA_end + (1 : Int32)) vA_number cA_bytes) H := hP
                        have hD : va_D A (w_X6_advance cyI cyJ cyZ cyB cyO aA aA_bytes vA_size vA_token vA_start (vA_end + (1 : Int32)) vA_number cA_bytes) := hD
                        refine lv_iinc (v := y2 + 1) (lv' := [(2, .int (y2 + 1)), (1, .int y1), (0, .ref aA)]) hx hb dX6_advance_140 hl (k := 1) rfl rfl (by decide) rfl (fun ls hl => ?_)
                        refine lv_goto (tgt := 105) hx hb dX6_advance_143 (by decide) ?_
                        exact ih105 y1 (y2 + 1) vA_token vA_start (vA_end + (1 : Int32)) _ _ _ hP hD hS (lv_sub hl [1, 0, 2] rfl) h
              exact lp105 FU (0 : Int32) (0 : Int32) vA_token vA_start vA_end _ _ _ hP hD hS (lv_sub hl [1, 0, 2] rfl) h
            · have h := br_pos c7 h
              refine lv_iconst (v := 1) hx hb dX6_advance_97 (by decide) ?_
              refine lv_goto (tgt := 102) hx hb dX6_advance_98 (by decide) ?_
              refine lv_istore_n (lv' := [(1, .int (1 : Int32)), (0, .ref aA)]) hx hb dX6_advance_102 rfl hl (by decide) rfl (fun ls hl => ?_)
              refine lv_iconst (v := 0) hx hb dX6_advance_103 (by decide) ?_
              refine lv_istore_n (lv' := [(2, .int (0 : Int32)), (1, .int (1 : Int32)), (0, .ref aA)]) hx hb dX6_advance_104 rfl hl (by decide) rfl (fun ls hl => ?_)
              have lp105 : ∀ (k105 : Nat) (y1 : Int32) (y2 : Int32) (vA_token : Int32) (vA_start : Int32) (vA_end : Int32) (H : Heap) (locs : List Loc) (ls : Array Slot), va_P D vwCl (w_X6_advance cyI cyJ cyZ cyB cyO aA aA_bytes vA_size vA_token vA_start vA_end vA_number cA_bytes) H → va_D A (w_X6_advance cyI cyJ cyZ cyB cyO aA aA_bytes vA_size vA_token vA_start vA_end vA_number cA_bytes) → va_S A s.heap H locs → lv_has ls 3 [(1, .int y1), (2, .int y2), (0, .ref aA)] → (f_X6_advance_L105 vA_size cA_bytes k105) (y1, y2, vA_token, vA_start, vA_end) = some out → W p l e ({ frames := 2, cells := 0, slots := 0, locals := 43 } : Room) s m args below meth c H locs 0 0 Q (F0 m 105 ls []) := by
                intro k105
                induction k105 with
                | zero => intro y1 y2 vA_token vA_start vA_end H locs ls hP hD hS hl h; cases h
                | succ k105 ih105 =>
                  intro y1 y2 vA_token vA_start vA_end H locs ls hP hD hS hl h
                  have h : f_X6_advance_L105_b vA_size cA_bytes (f_X6_advance_L105 vA_size cA_bytes k105) y1 y2 vA_token vA_start vA_end = some out := h
                  unfold f_X6_advance_L105_b at h
                  refine lv_iload_n hx hb dX6_advance_105 rfl (lv_at hl 1 rfl) ?_
                  refine lv_bipush (v := 120) hx hb dX6_advance_106 (by decide) ?_
                  refine lv_icmp_ge (tgt := 146) hx hb dX6_advance_108 (by decide) (fun c12 => ?_) (fun c12 => ?_)
                  · have h := br_pos c12 h
                    obtain rfl := Option.some.inj h
                    exact hret _ _ _ _ hP hD hS dX6_advance_146 
                  · have h := br_neg c12 h
                    refine lv_iload_n hx hb dX6_advance_111 rfl (lv_at hl 0 rfl) ?_
                    refine lv_if_eq (tgt := 146) hx hb dX6_advance_112 (by decide) (fun c13 => ?_) (fun c13 => ?_)
                    · have h := br_pos c13 h
                      obtain rfl := Option.some.inj h
                      exact hret _ _ _ _ hP hD hS dX6_advance_146 
                    · have h := br_neg c13 h
                      refine lv_aload_n hx hb dX6_advance_115 rfl (lv_at hl 2 rfl) ?_
                      refine lv_aload_n hx hb dX6_advance_116 rfl (lv_at hl 2 rfl) ?_
                      refine va_get (D := D) (ci := 5) (v := .int vA_end) (C := RX6) (T := TX6) (N := 6) hx hb hts in_X6 hown hK hP 0 rfl rfl 4 (by decide) q1 (fun _ h9 => h9) rfl dX6_advance_117 ?_
                      obtain ⟨u14, hu14, h⟩ := bd_some h
                      refine cl_Vi (rest := []) F hK hP hD hS hA hl (t_X6_beginsAt l D cyI cyJ cyZ cyB cyO aA aA_bytes vA_size vA_token vA_start vA_end vA_number cA_bytes vA_end u14 hu14) (cwV 1 hts gX6_advance_X6_beginsAt rfl rfl rfl (by decide +kernel) ⟨Nat.le_of_ble_eq_true rfl, Nat.le_of_ble_eq_true rfl⟩) 0 [0, 1] [1, 2] [] (w_X6_advance cyI cyJ cyZ cyB cyO aA aA_bytes vA_size vA_token vA_start vA_end vA_number cA_bytes) rfl rfl rfl rfl rfl (by decide +kernel) rfl rfl (Nat.le_of_ble_eq_true rfl) ⟨Nat.zero_le _, Nat.zero_le _⟩ dX6_advance_120 (fun H locs hP hD hS => ?_)
                      refine lv_aload_n hx hb dX6_advance_123 rfl (lv_at hl 2 rfl) ?_
                      refine va_get (D := D) (ci := 5) (v := .int vA_token) (C := RX6) (T := TX6) (N := 6) hx hb hts in_X6 hown hK hP 0 rfl rfl 2 (by decide) q3 (fun _ h9 => h9) rfl dX6_advance_124 ?_
                      refine lv_icmp_ne (tgt := 146) hx hb dX6_advance_127 (by decide) (fun c15 => ?_) (fun c15 => ?_)
                      · have h := br_neg c15 h
                        obtain rfl := Option.some.inj h
                        exact hret _ _ _ _ hP hD hS dX6_advance_146 
                      · have h := br_pos c15 h
                        refine lv_aload_n hx hb dX6_advance_130 rfl (lv_at hl 2 rfl) ?_
                        refine lv_dup hx hb dX6_advance_131 rfl ?_
                        refine va_get (D := D) (ci := 5) (v := .int vA_end) (C := RX6) (T := TX6) (N := 6) hx hb hts in_X6 hown hK hP 0 rfl rfl 4 (by decide) q1 (fun _ h9 => h9) rfl dX6_advance_132 ?_
                        refine lv_iconst (v := 1) hx hb dX6_advance_135 (by decide) ?_
                        refine lv_iadd hx hb dX6_advance_136 ?_
                        refine va_put (D := D) (ci := 5) (v := .int (vA_end + (1 : Int32))) (ty := .int) (C := RX6) (T := TX6) (N := 6) hx hb hts in_X6 tyX6 tyX6_ok nmX6 hown hK hP hD hS 0 rfl rfl 4 (by decide) q1 (fun _ h9 => h9) rfl (by decide +kernel) rfl rfl (Nat.le_of_ble_eq_true rfl) dX6_advance_137 (fun H locs hP hD hS => ?_)
                        have hP : va_P D vwCl (w_X6_advance cyI cyJ cyZ cyB cyO aA aA_bytes vA_size vA_token vA_start (vA_end + (1 : Int32)) vA_number cA_bytes) H := hP
                        have hD : va_D A (w_X6_advance cyI cyJ cyZ cyB cyO aA aA_bytes vA_size vA_token vA_start (vA_end + (1 : Int32)) vA_number cA_bytes) := hD
                        refine lv_iinc (v := y2 + 1) (lv' := [(2, .int (y2 + 1)), (1, .int y1), (0, .ref aA)]) hx hb dX6_advance_140 hl (k := 1) rfl rfl (by decide) rfl (fun ls hl => ?_)
                        refine lv_goto (tgt := 105) hx hb dX6_advance_143 (by decide) ?_
                        exact ih105 y1 (y2 + 1) vA_token vA_start (vA_end + (1 : Int32)) _ _ _ hP hD hS (lv_sub hl [1, 0, 2] rfl) h
              exact lp105 FU (1 : Int32) (0 : Int32) vA_token vA_start vA_end _ _ _ hP hD hS (lv_sub hl [1, 0, 2] rfl) h
        refine lv_if_eq (tgt := 81) hx hb dX6_advance_68 (by decide) (fun c16 => ?_) (fun c16 => ?_)
        · have h := br_pos c16 h
          exact j81 u1 vA_start vA_start _ _ _ hP hD hS (lv_sub hl [0] rfl) h
        · have h := br_neg c16 h
          refine lv_aload_n hx hb dX6_advance_71 rfl (lv_at hl 0 rfl) ?_
          refine lv_dup hx hb dX6_advance_72 rfl ?_
          refine va_get (D := D) (ci := 5) (v := .int vA_start) (C := RX6) (T := TX6) (N := 6) hx hb hts in_X6 hown hK hP 0 rfl rfl 4 (by decide) q1 (fun _ h9 => h9) rfl dX6_advance_73 ?_
          refine lv_iconst (v := 1) hx hb dX6_advance_76 (by decide) ?_
          refine lv_iadd hx hb dX6_advance_77 ?_
          refine va_put (D := D) (ci := 5) (v := .int (vA_start + (1 : Int32))) (ty := .int) (C := RX6) (T := TX6) (N := 6) hx hb hts in_X6 tyX6 tyX6_ok nmX6 hown hK hP hD hS 0 rfl rfl 4 (by decide) q1 (fun _ h9 => h9) rfl (by decide +kernel) rfl rfl (Nat.le_of_ble_eq_true rfl) dX6_advance_78 (fun H locs hP hD hS => ?_)
          have hP : va_P D vwCl (w_X6_advance cyI cyJ cyZ cyB cyO aA aA_bytes vA_size u1 vA_start (vA_start + (1 : Int32)) vA_number cA_bytes) H := hP
          have hD : va_D A (w_X6_advance cyI cyJ cyZ cyB cyO aA aA_bytes vA_size u1 vA_start (vA_start + (1 : Int32)) vA_number cA_bytes) := hD
          exact j81 u1 vA_start (vA_start + (1 : Int32)) _ _ _ hP hD hS (lv_sub hl [0] rfl) h
      refine lv_icmp_ge (tgt := 44) hx hb dX6_advance_13 (by decide) (fun c17 => ?_) (fun c17 => ?_)
      · have h := br_pos c17 h
        exact j44 vA_token vA_start vA_end _ _ _ hP hD hS (lv_sub hl [1] rfl) h
      · have h := br_neg c17 h
        refine lv_aload_n hx hb dX6_advance_16 rfl (lv_at hl 1 rfl) ?_
        refine lv_aload_n hx hb dX6_advance_17 rfl (lv_at hl 1 rfl) ?_
        refine va_get (D := D) (ci := 5) (v := .int vA_start) (C := RX6) (T := TX6) (N := 6) hx hb hts in_X6 hown hK hP 0 rfl rfl 3 (by decide) q2 (fun _ h9 => h9) rfl dX6_advance_18 ?_
        obtain ⟨u18, hu18, h⟩ := bd_some h
        refine cl_Vi (rest := []) F hK hP hD hS hA hl (t_X6_beginsAt l D cyI cyJ cyZ cyB cyO aA aA_bytes vA_size vA_token vA_start vA_end vA_number cA_bytes vA_start u18 hu18) (cwV 1 hts gX6_advance_X6_beginsAt rfl rfl rfl (by decide +kernel) ⟨Nat.le_of_ble_eq_true rfl, Nat.le_of_ble_eq_true rfl⟩) 0 [0, 1] [1, 2] [] (w_X6_advance cyI cyJ cyZ cyB cyO aA aA_bytes vA_size vA_token vA_start vA_end vA_number cA_bytes) rfl rfl rfl rfl rfl (by decide +kernel) rfl rfl (Nat.le_of_ble_eq_true rfl) ⟨Nat.zero_le _, Nat.zero_le _⟩ dX6_advance_21 (fun H locs hP hD hS => ?_)
        refine lv_iconst (v := 5) hx hb dX6_advance_24 (by decide) ?_
        refine lv_icmp_ne (tgt := 44) hx hb dX6_advance_25 (by decide) (fun c19 => ?_) (fun c19 => ?_)
        · have h := br_neg c19 h
          exact j44 vA_token vA_start vA_end _ _ _ hP hD hS (lv_sub hl [1] rfl) h
        · have h := br_pos c19 h
          refine lv_aload_n hx hb dX6_advance_28 rfl (lv_at hl 1 rfl) ?_
          refine lv_dup hx hb dX6_advance_29 rfl ?_
          refine va_get (D := D) (ci := 5) (v := .int vA_start) (C := RX6) (T := TX6) (N := 6) hx hb hts in_X6 hown hK hP 0 rfl rfl 3 (by decide) q2 (fun _ h9 => h9) rfl dX6_advance_30 ?_
          refine lv_iconst (v := 1) hx hb dX6_advance_33 (by decide) ?_
          refine lv_iadd hx hb dX6_advance_34 ?_
          refine va_put (D := D) (ci := 5) (v := .int (vA_start + (1 : Int32))) (ty := .int) (C := RX6) (T := TX6) (N := 6) hx hb hts in_X6 tyX6 tyX6_ok nmX6 hown hK hP hD hS 0 rfl rfl 3 (by decide) q2 (fun _ h9 => h9) rfl (by decide +kernel) rfl rfl (Nat.le_of_ble_eq_true rfl) dX6_advance_35 (fun H locs hP hD hS => ?_)
          have hP : va_P D vwCl (w_X6_advance cyI cyJ cyZ cyB cyO aA aA_bytes vA_size vA_token (vA_start + (1 : Int32)) vA_end vA_number cA_bytes) H := hP
          have hD : va_D A (w_X6_advance cyI cyJ cyZ cyB cyO aA aA_bytes vA_size vA_token (vA_start + (1 : Int32)) vA_end vA_number cA_bytes) := hD
          refine lv_iinc (v := y1 + 1) (lv' := [(1, .int (y1 + 1)), (0, .ref aA)]) hx hb dX6_advance_38 hl (k := 0) rfl rfl (by decide) rfl (fun ls hl => ?_)
          refine lv_goto (tgt := 10) hx hb dX6_advance_41 (by decide) ?_
          exact ih10 (y1 + 1) vA_token (vA_start + (1 : Int32)) vA_end _ _ _ hP hD hS (lv_sub hl [0, 1] rfl) h
  exact lp10 FU (0 : Int32) vA_token vA_end vA_end _ _ _ hP hD hS (lv_sub hl [0, 1] rfl) h
/-! ===== X6_valueOfDigits ===== -/
def w_X6_valueOfDigits (cyI cyJ cyZ cyB cyO : ClassId) (aA aA_bytes : Nat) (vA_size : Int32) (vA_token : Int32) (vA_start : Int32) (vA_end : Int32) (vA_number : Int32) (cA_bytes : Nat → Int32) : va_W := [(aA, .inr (5, [.ref aA_bytes, .int vA_size, .int vA_token, .int vA_start, .int vA_end, .int vA_number])), (aA_bytes, .inl (cyI, 120, .inl cA_bytes))]
set_option maxHeartbeats 4000000 in
set_option maxRecDepth 100000 in
theorem t_X6_valueOfDigits (l : Launch) (D : va_G) (cyI cyJ cyZ cyB cyO : ClassId) (aA aA_bytes : Nat) (vA_size : Int32) (vA_token : Int32) (vA_start : Int32) (vA_end : Int32) (vA_number : Int32) (cA_bytes : Nat → Int32) (out : Int32) (h : f_X6_valueOfDigits vA_size vA_start vA_end cA_bytes = some out) : Mi l yX6_valueOfDigits wsX6_valueOfDigits ({ frames := 1, cells := 0, slots := 0, locals := 21 } : Room) D (tyA cyI cyJ cyZ cyB cyO) [.ref aA] (w_X6_valueOfDigits cyI cyJ cyZ cyB cyO aA aA_bytes vA_size vA_token vA_start vA_end vA_number cA_bytes) (w_X6_valueOfDigits cyI cyJ cyZ cyB cyO aA aA_bytes vA_size vA_token vA_start vA_end vA_number cA_bytes) out := by
  refine Mi.mk (cc := cX6_valueOfDigits) (maxL := 3) (rt := .int) (own := RX6) (by decide) rfl rfl (Nat.le_of_ble_eq_true rfl) ?_
  intro p e s m args below meth c A Q F hK hP hD hA hret ls hl
  obtain ⟨hx, hb, hml, hown, hts⟩ := id F
  have hS : va_S A s.heap s.heap [] := va_S.rf
  have hl : lv_has ls 3 [(0, .ref aA)] := hl
  have in_X6 : ∀ w ∈ wsX60, w ∈ wsX6_valueOfDigits := by decide +kernel
  have q1 := hts (Cond.fieldLink RX6 32 "ThirdFountain$Tape" "start" "I") (List.mem_of_getElem? (i := 1) rfl)
  have q2 := hts (Cond.fieldLink RX6 19 "ThirdFountain$Tape" "end" "I") (List.mem_of_getElem? (i := 2) rfl)
  have q8 := hts (Cond.methodLink RX6 78 yX6_byteAt) (List.mem_of_getElem? (i := 8) rfl)
  have q3 := hts (Cond.constant RX6 82 (100000)) (List.mem_of_getElem? (i := 3) rfl)
  have q4 := hts (Cond.methodLink RX6 83 Lib.Math.min.name) (List.mem_of_getElem? (i := 4) rfl)
  have q5 := hts (Cond.static Lib.Math.min.name) (List.mem_of_getElem? (i := 5) rfl)
  have q6 := hts (Cond.initialized "java/lang/Math") (List.mem_of_getElem? (i := 6) rfl)
  have q7 := hts (Cond.code Lib.Math.min.name Lib.Math.min.code 2 (some .int)) (List.mem_of_getElem? (i := 7) rfl)
  unfold f_X6_valueOfDigits at h
  refine lv_iconst (v := 0) hx hb dX6_valueOfDigits_0 (by decide) ?_
  refine lv_istore_n (lv' := [(1, .int (0 : Int32)), (0, .ref aA)]) hx hb dX6_valueOfDigits_1 rfl hl (by decide) rfl (fun ls hl => ?_)
  refine lv_aload_n hx hb dX6_valueOfDigits_2 rfl (lv_at hl 1 rfl) ?_
  refine va_get (D := D) (ci := 5) (v := .int vA_start) (C := RX6) (T := TX6) (N := 6) hx hb hts in_X6 hown hK hP 0 rfl rfl 3 (by decide) q1 (fun _ h9 => h9) rfl dX6_valueOfDigits_3 ?_
  refine lv_istore_n (lv' := [(2, .int vA_start), (1, .int (0 : Int32)), (0, .ref aA)]) hx hb dX6_valueOfDigits_6 rfl hl (by decide) rfl (fun ls hl => ?_)
  have lp7 : ∀ (k7 : Nat) (y1 : Int32) (y2 : Int32) (H : Heap) (locs : List Loc) (ls : Array Slot), va_P D vwCl (w_X6_valueOfDigits cyI cyJ cyZ cyB cyO aA aA_bytes vA_size vA_token vA_start vA_end vA_number cA_bytes) H → va_D A (w_X6_valueOfDigits cyI cyJ cyZ cyB cyO aA aA_bytes vA_size vA_token vA_start vA_end vA_number cA_bytes) → va_S A s.heap H locs → lv_has ls 3 [(1, .int y1), (2, .int y2), (0, .ref aA)] → (f_X6_valueOfDigits_L7 vA_size vA_start vA_end cA_bytes k7) (y1, y2) = some out → W p l e ({ frames := 1, cells := 0, slots := 0, locals := 21 } : Room) s m args below meth c H locs 0 0 Q (F0 m 7 ls []) := by
    intro k7
    induction k7 with
    | zero => intro y1 y2 H locs ls hP hD hS hl h; cases h
    | succ k7 ih7 =>
      intro y1 y2 H locs ls hP hD hS hl h
      have h : f_X6_valueOfDigits_L7_b vA_size vA_start vA_end cA_bytes (f_X6_valueOfDigits_L7 vA_size vA_start vA_end cA_bytes k7) y1 y2 = some out := h
      unfold f_X6_valueOfDigits_L7_b at h
      refine lv_iload_n hx hb dX6_valueOfDigits_7 rfl (lv_at hl 1 rfl) ?_
      refine lv_aload_n hx hb dX6_valueOfDigits_8 rfl (lv_at hl 2 rfl) ?_
      refine va_get (D := D) (ci := 5) (v := .int vA_end) (C := RX6) (T := TX6) (N := 6) hx hb hts in_X6 hown hK hP 0 rfl rfl 4 (by decide) q2 (fun _ h9 => h9) rfl dX6_valueOfDigits_9 ?_
      refine lv_icmp_ge (tgt := 40) hx hb dX6_valueOfDigits_12 (by decide) (fun c1 => ?_) (fun c1 => ?_)
      · have h := br_pos c1 h
        refine lv_iload_n hx hb dX6_valueOfDigits_40 rfl (lv_at hl 0 rfl) ?_
        obtain rfl := Option.some.inj h
        exact hret _ _ _ _ _ hP hD hS dX6_valueOfDigits_41 rfl rfl
      · have h := br_neg c1 h
        refine lv_iload_n hx hb dX6_valueOfDigits_15 rfl (lv_at hl 0 rfl) ?_
        refine lv_bipush (v := 10) hx hb dX6_valueOfDigits_16 (by decide) ?_
        refine lv_imul hx hb dX6_valueOfDigits_18 ?_
        refine lv_aload_n hx hb dX6_valueOfDigits_19 rfl (lv_at hl 2 rfl) ?_
        refine lv_iload_n hx hb dX6_valueOfDigits_20 rfl (lv_at hl 1 rfl) ?_
        obtain ⟨u2, hu2, h⟩ := bd_some h
        refine cl_Vi (rest := [.int (y1 * (10 : Int32))]) F hK hP hD hS hA hl (t_X6_byteAt l D cyI cyJ cyZ cyB cyO aA aA_bytes vA_size vA_token vA_start vA_end vA_number cA_bytes y2 u2 hu2) (cwV 1 hts gX6_valueOfDigits_X6_byteAt rfl rfl rfl (by decide +kernel) ⟨Nat.le_of_ble_eq_true rfl, Nat.le_of_ble_eq_true rfl⟩) 0 [0, 1] [1, 2] [] (w_X6_valueOfDigits cyI cyJ cyZ cyB cyO aA aA_bytes vA_size vA_token vA_start vA_end vA_number cA_bytes) rfl rfl rfl rfl rfl (by decide +kernel) rfl rfl (Nat.le_of_ble_eq_true rfl) ⟨Nat.zero_le _, Nat.zero_le _⟩ dX6_valueOfDigits_21 (fun H locs hP hD hS => ?_)
        refine lv_iadd hx hb dX6_valueOfDigits_24 ?_
        refine lv_bipush (v := 48) hx hb dX6_valueOfDigits_25 (by decide) ?_
        refine lv_isub hx hb dX6_valueOfDigits_27 ?_
        refine lv_ldc (v := 100000) hx hb hown q3 dX6_valueOfDigits_28 ?_
        refine va_mmin hx hb (hml.trans hl.1.symm) hown q4 q5 q6 q7 (Nat.le_of_ble_eq_true rfl) (Nat.le_of_ble_eq_true rfl) (Nat.le_refl 0) (Nat.le_refl 0) dX6_valueOfDigits_30 ?_
        refine lv_topi (fun z3 ez3 => ?_)
        have h := nm_at ez3 h
        refine lv_istore_n (lv' := [(1, .int z3), (2, .int y2), (0, .ref aA)]) hx hb dX6_valueOfDigits_33 rfl hl (by decide) rfl (fun ls hl => ?_)
        refine lv_iinc (v := y2 + 1) (lv' := [(2, .int (y2 + 1)), (1, .int z3), (0, .ref aA)]) hx hb dX6_valueOfDigits_34 hl (k := 1) rfl rfl (by decide) rfl (fun ls hl => ?_)
        refine lv_goto (tgt := 7) hx hb dX6_valueOfDigits_37 (by decide) ?_
        exact ih7 z3 (y2 + 1) _ _ _ hP hD hS (lv_sub hl [1, 0, 2] rfl) h
  exact lp7 FU (0 : Int32) vA_start _ _ _ hP hD hS (lv_sub hl [1, 0, 2] rfl) h
/-! ===== X6_readNumber ===== -/
def w_X6_readNumber (cyI cyJ cyZ cyB cyO : ClassId) (aA aA_bytes : Nat) (vA_size : Int32) (vA_token : Int32) (vA_start : Int32) (vA_end : Int32) (vA_number : Int32) (cA_bytes : Nat → Int32) : va_W := [(aA, .inr (5, [.ref aA_bytes, .int vA_size, .int vA_token, .int vA_start, .int vA_end, .int vA_number])), (aA_bytes, .inl (cyI, 120, .inl cA_bytes))]
set_option maxHeartbeats 4000000 in
set_option maxRecDepth 100000 in
theorem t_X6_readNumber (l : Launch) (D : va_G) (cyI cyJ cyZ cyB cyO : ClassId) (aA aA_bytes : Nat) (vA_size : Int32) (vA_token : Int32) (vA_start : Int32) (vA_end : Int32) (vA_number : Int32) (cA_bytes : Nat → Int32) (x1 : Int32) (x2 : Int32) (out : Int32 × Int32 × Int32 × Int32 × Int32) (h : f_X6_readNumber x1 x2 vA_size vA_token vA_start vA_end vA_number cA_bytes = some out) : Mi l yX6_readNumber wsX6_readNumber ({ frames := 3, cells := 0, slots := 0, locals := 65 } : Room) D (tyA cyI cyJ cyZ cyB cyO) [.ref aA, .int x1, .int x2] (w_X6_readNumber cyI cyJ cyZ cyB cyO aA aA_bytes vA_size vA_token vA_start vA_end vA_number cA_bytes) (w_X6_readNumber cyI cyJ cyZ cyB cyO aA aA_bytes vA_size out.2.1 out.2.2.1 out.2.2.2.1 out.2.2.2.2 cA_bytes) out.1 := by
  refine Mi.mk (cc := cX6_readNumber) (maxL := 3) (rt := .boolean) (own := RX6) (by decide) rfl rfl (Nat.le_of_ble_eq_true rfl) ?_
  intro p e s m args below meth c A Q F hK hP hD hA hret ls hl
  obtain ⟨hx, hb, hml, hown, hts⟩ := id F
  have hS : va_S A s.heap s.heap [] := va_S.rf
  have hl : lv_has ls 3 [(0, .ref aA), (1, .int x1), (2, .int x2)] := hl
  have in_X6 : ∀ w ∈ wsX60, w ∈ wsX6_readNumber := by decide +kernel
  have q1 := hts (Cond.fieldLink RX6 29 "ThirdFountain$Tape" "token" "I") (List.mem_of_getElem? (i := 1) rfl)
  have q3 := hts (Cond.methodLink RX6 75 yX6_valueOfDigits) (List.mem_of_getElem? (i := 3) rfl)
  have q2 := hts (Cond.fieldLink RX6 62 "ThirdFountain$Tape" "number" "I") (List.mem_of_getElem? (i := 2) rfl)
  have q21 := hts (Cond.methodLink RX6 22 yX6_advance) (List.mem_of_getElem? (i := 21) rfl)
  unfold f_X6_readNumber at h
  refine lv_aload_n hx hb dX6_readNumber_0 rfl (lv_at hl 0 rfl) ?_
  refine va_get (D := D) (ci := 5) (v := .int vA_token) (C := RX6) (T := TX6) (N := 6) hx hb hts in_X6 hown hK hP 0 rfl rfl 2 (by decide) q1 (fun _ h9 => h9) rfl dX6_readNumber_1 ?_
  refine lv_iconst (v := 2) hx hb dX6_readNumber_4 (by decide) ?_
  refine lv_icmp_eq (tgt := 10) hx hb dX6_readNumber_5 (by decide) (fun c1 => ?_) (fun c1 => ?_)
  · have h := br_pos c1 h
    refine lv_aload_n hx hb dX6_readNumber_10 rfl (lv_at hl 0 rfl) ?_
    refine lv_aload_n hx hb dX6_readNumber_11 rfl (lv_at hl 0 rfl) ?_
    obtain ⟨u2, hu2, h⟩ := bd_some h
    refine cl_Vi (rest := [.ref aA]) F hK hP hD hS hA hl (t_X6_valueOfDigits l D cyI cyJ cyZ cyB cyO aA aA_bytes vA_size vA_token vA_start vA_end vA_number cA_bytes u2 hu2) (cwV 0 hts gX6_readNumber_X6_valueOfDigits rfl rfl rfl (by decide +kernel) ⟨Nat.le_of_ble_eq_true rfl, Nat.le_of_ble_eq_true rfl⟩) 0 [0, 1] [1, 2] [] (w_X6_readNumber cyI cyJ cyZ cyB cyO aA aA_bytes vA_size vA_token vA_start vA_end vA_number cA_bytes) rfl rfl rfl rfl rfl (by decide +kernel) rfl rfl (Nat.le_of_ble_eq_true rfl) ⟨Nat.zero_le _, Nat.zero_le _⟩ dX6_readNumber_12 (fun H locs hP hD hS => ?_)
    refine va_put (D := D) (ci := 5) (v := .int u2) (ty := .int) (C := RX6) (T := TX6) (N := 6) hx hb hts in_X6 tyX6 tyX6_ok nmX6 hown hK hP hD hS 0 rfl rfl 5 (by decide) q2 (fun _ h9 => h9) rfl (by decide +kernel) rfl rfl (Nat.le_of_ble_eq_true rfl) dX6_readNumber_15 (fun H locs hP hD hS => ?_)
    have hP : va_P D vwCl (w_X6_readNumber cyI cyJ cyZ cyB cyO aA aA_bytes vA_size vA_token vA_start vA_end u2 cA_bytes) H := hP
    have hD : va_D A (w_X6_readNumber cyI cyJ cyZ cyB cyO aA aA_bytes vA_size vA_token vA_start vA_end u2 cA_bytes) := hD
    refine lv_aload_n hx hb dX6_readNumber_18 rfl (lv_at hl 0 rfl) ?_
    refine va_get (D := D) (ci := 5) (v := .int u2) (C := RX6) (T := TX6) (N := 6) hx hb hts in_X6 hown hK hP 0 rfl rfl 5 (by decide) q2 (fun _ h9 => h9) rfl dX6_readNumber_19 ?_
    refine lv_iload_n hx hb dX6_readNumber_22 rfl (lv_at hl 1 rfl) ?_
    refine lv_icmp_lt (tgt := 34) hx hb dX6_readNumber_23 (by decide) (fun c3 => ?_) (fun c3 => ?_)
    · have h := br_pos c3 h
      refine lv_iconst (v := 0) hx hb dX6_readNumber_34 (by decide) ?_
      obtain rfl := Option.some.inj h
      exact hret _ _ _ _ _ hP hD hS dX6_readNumber_35 (nz_of (Or.inl rfl)) rfl
    · have h := br_neg c3 h
      refine lv_aload_n hx hb dX6_readNumber_26 rfl (lv_at hl 0 rfl) ?_
      refine va_get (D := D) (ci := 5) (v := .int u2) (C := RX6) (T := TX6) (N := 6) hx hb hts in_X6 hown hK hP 0 rfl rfl 5 (by decide) q2 (fun _ h9 => h9) rfl dX6_readNumber_27 ?_
      refine lv_iload_n hx hb dX6_readNumber_30 rfl (lv_at hl 2 rfl) ?_
      refine lv_icmp_le (tgt := 36) hx hb dX6_readNumber_31 (by decide) (fun c4 => ?_) (fun c4 => ?_)
      · have h := br_pos c4 h
        refine lv_aload_n hx hb dX6_readNumber_36 rfl (lv_at hl 0 rfl) ?_
        obtain ⟨u5, hu5, h⟩ := bd_some h
        refine cl_Vv (rest := []) F hK hP hD hS hA hl (t_X6_advance l D cyI cyJ cyZ cyB cyO aA aA_bytes vA_size vA_token vA_start vA_end u2 cA_bytes u5 hu5) (cwV 0 hts gX6_readNumber_X6_advance rfl rfl rfl (by decide +kernel) ⟨Nat.le_of_ble_eq_true rfl, Nat.le_of_ble_eq_true rfl⟩) 0 [0, 1] [1, 2] [] (w_X6_readNumber cyI cyJ cyZ cyB cyO aA aA_bytes vA_size u5.1 u5.2.1 u5.2.2 u2 cA_bytes) rfl rfl rfl rfl rfl (by decide +kernel) rfl rfl (Nat.le_of_ble_eq_true rfl) ⟨Nat.zero_le _, Nat.zero_le _⟩ dX6_readNumber_37 (fun H locs hP hD hS => ?_)
        refine lv_iconst (v := 1) hx hb dX6_readNumber_40 (by decide) ?_
        obtain rfl := Option.some.inj h
        exact hret _ _ _ _ _ hP hD hS dX6_readNumber_41 (nz_of (Or.inr rfl)) rfl
      · have h := br_neg c4 h
        refine lv_iconst (v := 0) hx hb dX6_readNumber_34 (by decide) ?_
        obtain rfl := Option.some.inj h
        exact hret _ _ _ _ _ hP hD hS dX6_readNumber_35 (nz_of (Or.inl rfl)) rfl
  · have h := br_neg c1 h
    refine lv_iconst (v := 0) hx hb dX6_readNumber_8 (by decide) ?_
    obtain rfl := Option.some.inj h
    exact hret _ _ _ _ _ hP hD hS dX6_readNumber_9 (nz_of (Or.inl rfl)) rfl
/-! ===== X6_readSpring ===== -/
def w_X6_readSpring (cyI cyJ cyZ cyB cyO : ClassId) (aA aA_bytes aF aF_kind aF_above aF_edge aF_pool aF_store aF_spot : Nat) (vA_size : Int32) (vA_token : Int32) (vA_start : Int32) (vA_end : Int32) (vA_number : Int32) (cA_bytes : Nat → Int32) (vF_basins : Int32) (vF_spring : Int32) (vF_hour : Int32) (vF_z : Int32) : va_W := [(aA, .inr (5, [.ref aA_bytes, .int vA_size, .int vA_token, .int vA_start, .int vA_end, .int vA_number])), (aA_bytes, .inl (cyI, 120, .inl cA_bytes)), (aF, .inr (2, [.ref aF_kind, .ref aF_above, .ref aF_edge, .ref aF_pool, .ref aF_store, .ref aF_spot, .int vF_basins, .int vF_spring, .int vF_hour, .int vF_z]))]
set_option maxHeartbeats 4000000 in
set_option maxRecDepth 100000 in
theorem t_X6_readSpring (l : Launch) (D : va_G) (cyI cyJ cyZ cyB cyO : ClassId) (aA aA_bytes aF aF_kind aF_above aF_edge aF_pool aF_store aF_spot : Nat) (vA_size : Int32) (vA_token : Int32) (vA_start : Int32) (vA_end : Int32) (vA_number : Int32) (cA_bytes : Nat → Int32) (vF_basins : Int32) (vF_spring : Int32) (vF_hour : Int32) (vF_z : Int32) (out : Int32 × Int32 × Int32 × Int32 × Int32 × Int32) (h : f_X6_readSpring vA_size vA_token vA_start vA_end vA_number cA_bytes vF_spring = some out) : Mi l yX6_readSpring wsX6_readSpring ({ frames := 4, cells := 0, slots := 0, locals := 87 } : Room) D (tyA cyI cyJ cyZ cyB cyO) [.ref aA, .ref aF] (w_X6_readSpring cyI cyJ cyZ cyB cyO aA aA_bytes aF aF_kind aF_above aF_edge aF_pool aF_store aF_spot vA_size vA_token vA_start vA_end vA_number cA_bytes vF_basins vF_spring vF_hour vF_z) (w_X6_readSpring cyI cyJ cyZ cyB cyO aA aA_bytes aF aF_kind aF_above aF_edge aF_pool aF_store aF_spot vA_size out.2.1 out.2.2.1 out.2.2.2.1 out.2.2.2.2.1 cA_bytes vF_basins out.2.2.2.2.2 vF_hour vF_z) out.1 := by
  refine Mi.mk (cc := cX6_readSpring) (maxL := 2) (rt := .boolean) (own := RX6) (by decide) rfl rfl (Nat.le_of_ble_eq_true rfl) ?_
  intro p e s m args below meth c A Q F hK hP hD hA hret ls hl
  obtain ⟨hx, hb, hml, hown, hts⟩ := id F
  have hS : va_S A s.heap s.heap [] := va_S.rf
  have hl : lv_has ls 2 [(0, .ref aA), (1, .ref aF)] := hl
  have in_X6 : ∀ w ∈ wsX60, w ∈ wsX6_readSpring := by decide +kernel
  have in_X2 : ∀ w ∈ wsX20, w ∈ wsX6_readSpring := by decide +kernel
  have q4 := hts (Cond.methodLink RX6 22 yX6_advance) (List.mem_of_getElem? (i := 4) rfl)
  have q1 := hts (Cond.constant RX6 57 (99999)) (List.mem_of_getElem? (i := 1) rfl)
  have q22 := hts (Cond.methodLink RX6 58 yX6_readNumber) (List.mem_of_getElem? (i := 22) rfl)
  have q2 := hts (Cond.fieldLink RX6 62 "ThirdFountain$Tape" "number" "I") (List.mem_of_getElem? (i := 2) rfl)
  have q3 := hts (Cond.fieldLink RX6 65 "ThirdFountain$Fountain" "spring" "I") (List.mem_of_getElem? (i := 3) rfl)
  unfold f_X6_readSpring at h
  refine lv_aload_n hx hb dX6_readSpring_0 rfl (lv_at hl 0 rfl) ?_
  obtain ⟨u1, hu1, h⟩ := bd_some h
  refine cl_Vv (rest := []) F hK hP hD hS hA hl (t_X6_advance l D cyI cyJ cyZ cyB cyO aA aA_bytes vA_size vA_token vA_start vA_end vA_number cA_bytes u1 hu1) (cwV 0 hts gX6_readSpring_X6_advance rfl rfl rfl (by decide +kernel) ⟨Nat.le_of_ble_eq_true rfl, Nat.le_of_ble_eq_true rfl⟩) 0 [0, 1] [1, 2, 0] [] (w_X6_readSpring cyI cyJ cyZ cyB cyO aA aA_bytes aF aF_kind aF_above aF_edge aF_pool aF_store aF_spot vA_size u1.1 u1.2.1 u1.2.2 vA_number cA_bytes vF_basins vF_spring vF_hour vF_z) rfl rfl rfl rfl rfl (by decide +kernel) rfl rfl (Nat.le_of_ble_eq_true rfl) ⟨Nat.zero_le _, Nat.zero_le _⟩ dX6_readSpring_1 (fun H locs hP hD hS => ?_)
  refine lv_aload_n hx hb dX6_readSpring_4 rfl (lv_at hl 0 rfl) ?_
  refine lv_iconst (v := 0) hx hb dX6_readSpring_5 (by decide) ?_
  refine lv_ldc (v := 99999) hx hb hown q1 dX6_readSpring_6 ?_
  obtain ⟨u2, hu2, h⟩ := bd_some h
  refine cl_Vi (rest := []) F hK hP hD hS hA hl (t_X6_readNumber l D cyI cyJ cyZ cyB cyO aA aA_bytes vA_size u1.1 u1.2.1 u1.2.2 vA_number cA_bytes (0 : Int32) (99999 : Int32) u2 hu2) (cwV 2 hts gX6_readSpring_X6_readNumber rfl rfl rfl (by decide +kernel) ⟨Nat.le_of_ble_eq_true rfl, Nat.le_of_ble_eq_true rfl⟩) 0 [0, 1] [1, 2, 0] [] (w_X6_readSpring cyI cyJ cyZ cyB cyO aA aA_bytes aF aF_kind aF_above aF_edge aF_pool aF_store aF_spot vA_size u2.2.1 u2.2.2.1 u2.2.2.2.1 u2.2.2.2.2 cA_bytes vF_basins vF_spring vF_hour vF_z) rfl rfl rfl rfl rfl (by decide +kernel) rfl rfl (Nat.le_of_ble_eq_true rfl) ⟨Nat.zero_le _, Nat.zero_le _⟩ dX6_readSpring_8 (fun H locs hP hD hS => ?_)
  refine lv_if_ne (tgt := 16) hx hb dX6_readSpring_11 (by decide) (fun c3 => ?_) (fun c3 => ?_)
  · have h := br_neg c3 h
    refine lv_aload_n hx hb dX6_readSpring_16 rfl (lv_at hl 1 rfl) ?_
    refine lv_aload_n hx hb dX6_readSpring_17 rfl (lv_at hl 0 rfl) ?_
    refine va_get (D := D) (ci := 5) (v := .int u2.2.2.2.2) (C := RX6) (T := TX6) (N := 6) hx hb hts in_X6 hown hK hP 0 rfl rfl 5 (by decide) q2 (fun _ h9 => h9) rfl dX6_readSpring_18 ?_
    refine va_put (D := D) (ci := 2) (v := .int u2.2.2.2.2) (ty := .int) (C := RX2) (T := TX2) (N := 10) hx hb hts in_X2 tyX2 tyX2_ok nmX2 hown hK hP hD hS 2 rfl rfl 7 (by decide) q3 (fun _ h9 => h9) rfl (by decide +kernel) rfl rfl (Nat.le_of_ble_eq_true rfl) dX6_readSpring_21 (fun H locs hP hD hS => ?_)
    have hP : va_P D vwCl (w_X6_readSpring cyI cyJ cyZ cyB cyO aA aA_bytes aF aF_kind aF_above aF_edge aF_pool aF_store aF_spot vA_size u2.2.1 u2.2.2.1 u2.2.2.2.1 u2.2.2.2.2 cA_bytes vF_basins u2.2.2.2.2 vF_hour vF_z) H := hP
    have hD : va_D A (w_X6_readSpring cyI cyJ cyZ cyB cyO aA aA_bytes aF aF_kind aF_above aF_edge aF_pool aF_store aF_spot vA_size u2.2.1 u2.2.2.1 u2.2.2.2.1 u2.2.2.2.2 cA_bytes vF_basins u2.2.2.2.2 vF_hour vF_z) := hD
    refine lv_iconst (v := 1) hx hb dX6_readSpring_24 (by decide) ?_
    obtain rfl := Option.some.inj h
    exact hret _ _ _ _ _ hP hD hS dX6_readSpring_25 (nz_of (Or.inr rfl)) rfl
  · have h := br_pos c3 h
    refine lv_iconst (v := 0) hx hb dX6_readSpring_14 (by decide) ?_
    obtain rfl := Option.some.inj h
    exact hret _ _ _ _ _ hP hD hS dX6_readSpring_15 (nz_of (Or.inl rfl)) rfl
