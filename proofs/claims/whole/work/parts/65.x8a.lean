/-! ===== X8_finds ===== -/
def w_X8_finds (cyI cyJ cyZ cyB cyO : ClassId) (aM aM_found aM_d aM_e aM_f aM_kept aM_tape aM_came aM_got aM_held aM_off aM_comesUp aM_comesDown aM_path aM_gets aM_gotNow aM_bitsOf aM_sizeOf aM_number aM_passing : Nat) (vM_isKept : Int32) (vM_taped : Int32) (vM_leaked : Int32) (vM_keptAll : Int32) (vM_offAll : Int32) (vM_up : Int64) (vM_down : Int64) (vM_sharesUp : Int64) (vM_sharesDown : Int64) (vM_onUp : Int64) (vM_onDown : Int64) (vM_great : Int32) (vM_triedOff : Int32) (vM_triedLeaked : Int32) (vM_triedKept : Int32) (vM_fitting : Int32) (vM_firstSet : Int32) (vM_inAll : Int32) (vM_inAny : Int32) (vM_at : Int32) (vM_sort : Int32) (vM_from : Int32) (vM_value : Int64) (vM_fault : Int32) (cM_found : Nat → Int32) : va_W := [(aM, .inr (7, [.ref aM_d, .ref aM_e, .ref aM_f, .ref aM_kept, .int vM_isKept, .ref aM_found, .ref aM_tape, .int vM_taped, .ref aM_came, .ref aM_got, .ref aM_held, .ref aM_off, .int vM_leaked, .int vM_keptAll, .int vM_offAll, .ref aM_comesUp, .ref aM_comesDown, .long vM_up, .long vM_down, .long vM_sharesUp, .long vM_sharesDown, .long vM_onUp, .long vM_onDown, .int vM_great, .ref aM_path, .ref aM_gets, .int vM_triedOff, .int vM_triedLeaked, .int vM_triedKept, .ref aM_gotNow, .int vM_fitting, .int vM_firstSet, .int vM_inAll, .int vM_inAny, .int vM_at, .int vM_sort, .int vM_from, .long vM_value, .int vM_fault, .ref aM_bitsOf, .ref aM_sizeOf, .ref aM_number, .ref aM_passing])), (aM_found, .inl (cyI, 7, .inl cM_found))]
set_option maxHeartbeats 4000000 in
set_option maxRecDepth 100000 in
theorem t_X8_finds (l : Launch) (D : va_G) (cyI cyJ cyZ cyB cyO : ClassId) (aM aM_found aM_d aM_e aM_f aM_kept aM_tape aM_came aM_got aM_held aM_off aM_comesUp aM_comesDown aM_path aM_gets aM_gotNow aM_bitsOf aM_sizeOf aM_number aM_passing : Nat) (vM_isKept : Int32) (vM_taped : Int32) (vM_leaked : Int32) (vM_keptAll : Int32) (vM_offAll : Int32) (vM_up : Int64) (vM_down : Int64) (vM_sharesUp : Int64) (vM_sharesDown : Int64) (vM_onUp : Int64) (vM_onDown : Int64) (vM_great : Int32) (vM_triedOff : Int32) (vM_triedLeaked : Int32) (vM_triedKept : Int32) (vM_fitting : Int32) (vM_firstSet : Int32) (vM_inAll : Int32) (vM_inAny : Int32) (vM_at : Int32) (vM_sort : Int32) (vM_from : Int32) (vM_value : Int64) (vM_fault : Int32) (cM_found : Nat → Int32) (x1 : Int32) (out : Int32 × (Nat → Int32)) (h : f_X8_finds x1 cM_found = some out) : Mi l yX8_finds wsX8_finds ({ frames := 0, cells := 0, slots := 0, locals := 0 } : Room) D (tyA cyI cyJ cyZ cyB cyO) [.ref aM, .int x1] (w_X8_finds cyI cyJ cyZ cyB cyO aM aM_found aM_d aM_e aM_f aM_kept aM_tape aM_came aM_got aM_held aM_off aM_comesUp aM_comesDown aM_path aM_gets aM_gotNow aM_bitsOf aM_sizeOf aM_number aM_passing vM_isKept vM_taped vM_leaked vM_keptAll vM_offAll vM_up vM_down vM_sharesUp vM_sharesDown vM_onUp vM_onDown vM_great vM_triedOff vM_triedLeaked vM_triedKept vM_fitting vM_firstSet vM_inAll vM_inAny vM_at vM_sort vM_from vM_value vM_fault cM_found) (w_X8_finds cyI cyJ cyZ cyB cyO aM aM_found aM_d aM_e aM_f aM_kept aM_tape aM_came aM_got aM_held aM_off aM_comesUp aM_comesDown aM_path aM_gets aM_gotNow aM_bitsOf aM_sizeOf aM_number aM_passing vM_isKept vM_taped vM_leaked vM_keptAll vM_offAll vM_up vM_down vM_sharesUp vM_sharesDown vM_onUp vM_onDown vM_great vM_triedOff vM_triedLeaked vM_triedKept vM_fitting vM_firstSet vM_inAll vM_inAny vM_at vM_sort vM_from vM_value vM_fault out.2) out.1 := by
  refine Mi.mk (cc := cX8_finds) (maxL := 2) (rt := .int) (own := RX8) (by decide) rfl rfl (Nat.le_of_ble_eq_true rfl) ?_
  intro p e s m args below meth c A Q F hK hP hD hA hret ls hl
  obtain ⟨hx, hb, hml, hown, hts⟩ := id F
  have hS : va_S A s.heap s.heap [] := va_S.rf
  have hl : lv_has ls 2 [(0, .ref aM), (1, .int x1)] := hl
  have in_X8 : ∀ w ∈ wsX80, w ∈ wsX8_finds := by decide +kernel
  have q1 := hts (Cond.fieldLink RX8 22 "ThirdFountainModel" "found" "[I") (List.mem_of_getElem? (i := 1) rfl)
  have q2 := hts (Cond.constant RX8 69 (-1000001)) (List.mem_of_getElem? (i := 2) rfl)
  unfold f_X8_finds at h
  refine lv_aload_n hx hb dX8_finds_0 rfl (lv_at hl 0 rfl) ?_
  refine va_get (D := D) (ci := 7) (v := .ref aM_found) (C := RX8) (T := TX8) (N := 43) hx hb hts in_X8 hown hK hP 0 rfl rfl 5 (by decide) q1 (fun _ h9 => h9) rfl dX8_finds_1 ?_
  refine lv_iload_n hx hb dX8_finds_4 rfl (lv_at hl 1 rfl) ?_
  refine lv_dup2_11 hx hb dX8_finds_5 rfl rfl ?_
  obtain ⟨g1, h⟩ := gd_some h
  refine va_iald hx hb hK hP 1 0 rfl rfl g1 dX8_finds_6 ?_
  refine lv_iconst (v := 1) hx hb dX8_finds_7 (by decide) ?_
  refine lv_iadd hx hb dX8_finds_8 ?_
  obtain ⟨g2, h⟩ := gd_some h
  refine va_iast hx hb hK hP hD hS 1 0 rfl rfl g2 dX8_finds_9 (fun H locs hP hD hS => ?_)
  have hP : va_P D vwCl (w_X8_finds cyI cyJ cyZ cyB cyO aM aM_found aM_d aM_e aM_f aM_kept aM_tape aM_came aM_got aM_held aM_off aM_comesUp aM_comesDown aM_path aM_gets aM_gotNow aM_bitsOf aM_sizeOf aM_number aM_passing vM_isKept vM_taped vM_leaked vM_keptAll vM_offAll vM_up vM_down vM_sharesUp vM_sharesDown vM_onUp vM_onDown vM_great vM_triedOff vM_triedLeaked vM_triedKept vM_fitting vM_firstSet vM_inAll vM_inAny vM_at vM_sort vM_from vM_value vM_fault (upd cM_found x1.toNatClampNeg ((cM_found x1.toNatClampNeg) + (1 : Int32)))) H := hP
  have hD : va_D A (w_X8_finds cyI cyJ cyZ cyB cyO aM aM_found aM_d aM_e aM_f aM_kept aM_tape aM_came aM_got aM_held aM_off aM_comesUp aM_comesDown aM_path aM_gets aM_gotNow aM_bitsOf aM_sizeOf aM_number aM_passing vM_isKept vM_taped vM_leaked vM_keptAll vM_offAll vM_up vM_down vM_sharesUp vM_sharesDown vM_onUp vM_onDown vM_great vM_triedOff vM_triedLeaked vM_triedKept vM_fitting vM_firstSet vM_inAll vM_inAny vM_at vM_sort vM_from vM_value vM_fault (upd cM_found x1.toNatClampNeg ((cM_found x1.toNatClampNeg) + (1 : Int32)))) := hD
  refine lv_ldc (v := -1000001) hx hb hown q2 dX8_finds_10 ?_
  refine lv_iload_n hx hb dX8_finds_12 rfl (lv_at hl 1 rfl) ?_
  refine lv_isub hx hb dX8_finds_13 ?_
  obtain rfl := Option.some.inj h
  exact hret _ _ _ _ _ hP hD hS dX8_finds_14 rfl rfl
/-! ===== X8_in ===== -/
def w_X8_in (cyI cyJ cyZ cyB cyO : ClassId) : va_W := []
set_option maxHeartbeats 4000000 in
set_option maxRecDepth 100000 in
theorem t_X8_in (l : Launch) (D : va_G) (cyI cyJ cyZ cyB cyO : ClassId) (x0 : Int64) (x2 : Int64) (x4 : Int64) (out : Int32) (h : f_X8_in x0 x2 x4 = some out) : Mi l yX8_in wsX8_in ({ frames := 0, cells := 0, slots := 0, locals := 0 } : Room) D (tyA cyI cyJ cyZ cyB cyO) [.long x0, .long x2, .long x4] (w_X8_in cyI cyJ cyZ cyB cyO ) (w_X8_in cyI cyJ cyZ cyB cyO ) out := by
  refine Mi.mk (cc := cX8_in) (maxL := 6) (rt := .boolean) (own := RX8) (by decide) rfl rfl (Nat.le_of_ble_eq_true rfl) ?_
  intro p e s m args below meth c A Q F hK hP hD hA hret ls hl
  obtain ⟨hx, hb, hml, hown, hts⟩ := id F
  have hS : va_S A s.heap s.heap [] := va_S.rf
  have hl : lv_has ls 6 [(0, .long x0), (2, .long x2), (4, .long x4)] := hl
  unfold f_X8_in at h
  refine lv_lload_n hx hb dX8_in_0 rfl (lv_at hl 0 rfl) ?_
  refine lv_lload_n hx hb dX8_in_1 rfl (lv_at hl 1 rfl) ?_
  refine W.lcmp hx hb dX8_in_2 ?_
  refine lv_if_lt (tgt := 17) hx hb dX8_in_3 (by decide) (fun c1 => ?_) (fun c1 => ?_)
  · have h := br_pos c1 h
    refine lv_iconst (v := 0) hx hb dX8_in_17 (by decide) ?_
    obtain rfl := Option.some.inj h
    exact hret _ _ _ _ _ hP hD hS dX8_in_18 (nz_of (Or.inl rfl)) rfl
  · have h := br_neg c1 h
    refine lv_lload_n hx hb dX8_in_6 rfl (lv_at hl 0 rfl) ?_
    refine lv_lload hx hb dX8_in_7 (lv_at hl 2 rfl) ?_
    refine W.lcmp hx hb dX8_in_9 ?_
    refine lv_if_gt (tgt := 17) hx hb dX8_in_10 (by decide) (fun c2 => ?_) (fun c2 => ?_)
    · have h := br_pos c2 h
      refine lv_iconst (v := 0) hx hb dX8_in_17 (by decide) ?_
      obtain rfl := Option.some.inj h
      exact hret _ _ _ _ _ hP hD hS dX8_in_18 (nz_of (Or.inl rfl)) rfl
    · have h := br_neg c2 h
      refine lv_iconst (v := 1) hx hb dX8_in_13 (by decide) ?_
      refine lv_goto (tgt := 18) hx hb dX8_in_14 (by decide) ?_
      obtain rfl := Option.some.inj h
      exact hret _ _ _ _ _ hP hD hS dX8_in_18 (nz_of (Or.inr rfl)) rfl
/-! ===== X8_copies ===== -/
def w_X8_copies (cyI cyJ cyZ cyB cyO : ClassId) (ar0 ar1 : Nat) (cr0 : Nat → Int32) (cr1 : Nat → Int32) : va_W := [(ar0, .inl (cyI, 64, .inl cr0)), (ar1, .inl (cyI, 64, .inl cr1))]
set_option maxHeartbeats 4000000 in
set_option maxRecDepth 100000 in
theorem t_X8_copies (l : Launch) (D : va_G) (cyI cyJ cyZ cyB cyO : ClassId) (ar0 ar1 : Nat) (cr0 : Nat → Int32) (cr1 : Nat → Int32) (out : (Nat → Int32)) (h : f_X8_copies cr0 cr1 = some out) : Mv l yX8_copies wsX8_copies ({ frames := 0, cells := 0, slots := 0, locals := 0 } : Room) D (tyA cyI cyJ cyZ cyB cyO) [.ref ar0, .ref ar1] (w_X8_copies cyI cyJ cyZ cyB cyO ar0 ar1 cr0 cr1) (w_X8_copies cyI cyJ cyZ cyB cyO ar0 ar1 cr0 out) := by
  refine Mv.mk (cc := cX8_copies) (maxL := 3) (own := RX8) (by decide) rfl rfl (Nat.le_of_ble_eq_true rfl) ?_
  intro p e s m args below meth c A Q F hK hP hD hA hret ls hl
  obtain ⟨hx, hb, hml, hown, hts⟩ := id F
  have hS : va_S A s.heap s.heap [] := va_S.rf
  have hl : lv_has ls 3 [(0, .ref ar0), (1, .ref ar1)] := hl
  unfold f_X8_copies at h
  refine lv_iconst (v := 0) hx hb dX8_copies_0 (by decide) ?_
  refine lv_istore_n (lv' := [(2, .int (0 : Int32)), (0, .ref ar0), (1, .ref ar1)]) hx hb dX8_copies_1 rfl hl (by decide) rfl (fun ls hl => ?_)
  have lp2 : ∀ (k2 : Nat) (y2 : Int32) (cr1 : Nat → Int32) (H : Heap) (locs : List Loc) (ls : Array Slot), va_P D vwCl (w_X8_copies cyI cyJ cyZ cyB cyO ar0 ar1 cr0 cr1) H → va_D A (w_X8_copies cyI cyJ cyZ cyB cyO ar0 ar1 cr0 cr1) → va_S A s.heap H locs → lv_has ls 3 [(2, .int y2), (0, .ref ar0), (1, .ref ar1)] → (f_X8_copies_L2 cr0 k2) (y2, cr1) = some out → W p l e ({ frames := 0, cells := 0, slots := 0, locals := 0 } : Room) s m args below meth c H locs 0 0 Q (F0 m 2 ls []) := by
    intro k2
    induction k2 with
    | zero => intro y2 cr1 H locs ls hP hD hS hl h; cases h
    | succ k2 ih2 =>
      intro y2 cr1 H locs ls hP hD hS hl h
      have h : f_X8_copies_L2_b cr0 (f_X8_copies_L2 cr0 k2) y2 cr1 = some out := h
      unfold f_X8_copies_L2_b at h
      refine lv_iload_n hx hb dX8_copies_2 rfl (lv_at hl 0 rfl) ?_
      refine lv_bipush (v := 64) hx hb dX8_copies_3 (by decide) ?_
      refine lv_icmp_ge (tgt := 20) hx hb dX8_copies_5 (by decide) (fun c1 => ?_) (fun c1 => ?_)
      · have h := br_pos c1 h
        obtain rfl := Option.some.inj h
        exact hret _ _ _ _ hP hD hS dX8_copies_20 
      · have h := br_neg c1 h
        refine lv_aload_n hx hb dX8_copies_8 rfl (lv_at hl 2 rfl) ?_
        refine lv_iload_n hx hb dX8_copies_9 rfl (lv_at hl 0 rfl) ?_
        refine lv_aload_n hx hb dX8_copies_10 rfl (lv_at hl 1 rfl) ?_
        refine lv_iload_n hx hb dX8_copies_11 rfl (lv_at hl 0 rfl) ?_
        obtain ⟨g2, h⟩ := gd_some h
        refine va_iald hx hb hK hP 0 0 rfl rfl g2 dX8_copies_12 ?_
        obtain ⟨g3, h⟩ := gd_some h
        refine va_iast hx hb hK hP hD hS 1 0 rfl rfl g3 dX8_copies_13 (fun H locs hP hD hS => ?_)
        have hP : va_P D vwCl (w_X8_copies cyI cyJ cyZ cyB cyO ar0 ar1 cr0 (upd cr1 y2.toNatClampNeg (cr0 y2.toNatClampNeg))) H := hP
        have hD : va_D A (w_X8_copies cyI cyJ cyZ cyB cyO ar0 ar1 cr0 (upd cr1 y2.toNatClampNeg (cr0 y2.toNatClampNeg))) := hD
        refine lv_iinc (v := y2 + 1) (lv' := [(2, .int (y2 + 1)), (0, .ref ar0), (1, .ref ar1)]) hx hb dX8_copies_14 hl (k := 0) rfl rfl (by decide) rfl (fun ls hl => ?_)
        refine lv_goto (tgt := 2) hx hb dX8_copies_17 (by decide) ?_
        exact ih2 (y2 + 1) (upd cr1 y2.toNatClampNeg (cr0 y2.toNatClampNeg)) _ _ _ hP hD hS (lv_sub hl [0, 1, 2] rfl) h
  exact lp2 FU (0 : Int32) cr1 _ _ _ hP hD hS (lv_sub hl [0, 1, 2] rfl) h
/-! ===== X8_isBasin ===== -/
def w_X8_isBasin (cyI cyJ cyZ cyB cyO : ClassId) (aM aM_d aM_e aM_f aM_kept aM_found aM_tape aM_came aM_got aM_held aM_off aM_comesUp aM_comesDown aM_path aM_gets aM_gotNow aM_bitsOf aM_sizeOf aM_number aM_passing : Nat) (vM_isKept : Int32) (vM_taped : Int32) (vM_leaked : Int32) (vM_keptAll : Int32) (vM_offAll : Int32) (vM_up : Int64) (vM_down : Int64) (vM_sharesUp : Int64) (vM_sharesDown : Int64) (vM_onUp : Int64) (vM_onDown : Int64) (vM_great : Int32) (vM_triedOff : Int32) (vM_triedLeaked : Int32) (vM_triedKept : Int32) (vM_fitting : Int32) (vM_firstSet : Int32) (vM_inAll : Int32) (vM_inAny : Int32) (vM_at : Int32) (vM_sort : Int32) (vM_from : Int32) (vM_value : Int64) (vM_fault : Int32) (cM_d : Nat → Int32) : va_W := [(aM, .inr (7, [.ref aM_d, .ref aM_e, .ref aM_f, .ref aM_kept, .int vM_isKept, .ref aM_found, .ref aM_tape, .int vM_taped, .ref aM_came, .ref aM_got, .ref aM_held, .ref aM_off, .int vM_leaked, .int vM_keptAll, .int vM_offAll, .ref aM_comesUp, .ref aM_comesDown, .long vM_up, .long vM_down, .long vM_sharesUp, .long vM_sharesDown, .long vM_onUp, .long vM_onDown, .int vM_great, .ref aM_path, .ref aM_gets, .int vM_triedOff, .int vM_triedLeaked, .int vM_triedKept, .ref aM_gotNow, .int vM_fitting, .int vM_firstSet, .int vM_inAll, .int vM_inAny, .int vM_at, .int vM_sort, .int vM_from, .long vM_value, .int vM_fault, .ref aM_bitsOf, .ref aM_sizeOf, .ref aM_number, .ref aM_passing])), (aM_d, .inl (cyI, 64, .inl cM_d))]
set_option maxHeartbeats 4000000 in
set_option maxRecDepth 100000 in
theorem t_X8_isBasin (l : Launch) (D : va_G) (cyI cyJ cyZ cyB cyO : ClassId) (aM aM_d aM_e aM_f aM_kept aM_found aM_tape aM_came aM_got aM_held aM_off aM_comesUp aM_comesDown aM_path aM_gets aM_gotNow aM_bitsOf aM_sizeOf aM_number aM_passing : Nat) (vM_isKept : Int32) (vM_taped : Int32) (vM_leaked : Int32) (vM_keptAll : Int32) (vM_offAll : Int32) (vM_up : Int64) (vM_down : Int64) (vM_sharesUp : Int64) (vM_sharesDown : Int64) (vM_onUp : Int64) (vM_onDown : Int64) (vM_great : Int32) (vM_triedOff : Int32) (vM_triedLeaked : Int32) (vM_triedKept : Int32) (vM_fitting : Int32) (vM_firstSet : Int32) (vM_inAll : Int32) (vM_inAny : Int32) (vM_at : Int32) (vM_sort : Int32) (vM_from : Int32) (vM_value : Int64) (vM_fault : Int32) (cM_d : Nat → Int32) (x1 : Int32) (out : Int32) (h : f_X8_isBasin x1 cM_d = some out) : Mi l yX8_isBasin wsX8_isBasin ({ frames := 1, cells := 0, slots := 0, locals := 25 } : Room) D (tyA cyI cyJ cyZ cyB cyO) [.ref aM, .int x1] (w_X8_isBasin cyI cyJ cyZ cyB cyO aM aM_d aM_e aM_f aM_kept aM_found aM_tape aM_came aM_got aM_held aM_off aM_comesUp aM_comesDown aM_path aM_gets aM_gotNow aM_bitsOf aM_sizeOf aM_number aM_passing vM_isKept vM_taped vM_leaked vM_keptAll vM_offAll vM_up vM_down vM_sharesUp vM_sharesDown vM_onUp vM_onDown vM_great vM_triedOff vM_triedLeaked vM_triedKept vM_fitting vM_firstSet vM_inAll vM_inAny vM_at vM_sort vM_from vM_value vM_fault cM_d) (w_X8_isBasin cyI cyJ cyZ cyB cyO aM aM_d aM_e aM_f aM_kept aM_found aM_tape aM_came aM_got aM_held aM_off aM_comesUp aM_comesDown aM_path aM_gets aM_gotNow aM_bitsOf aM_sizeOf aM_number aM_passing vM_isKept vM_taped vM_leaked vM_keptAll vM_offAll vM_up vM_down vM_sharesUp vM_sharesDown vM_onUp vM_onDown vM_great vM_triedOff vM_triedLeaked vM_triedKept vM_fitting vM_firstSet vM_inAll vM_inAny vM_at vM_sort vM_from vM_value vM_fault cM_d) out := by
  refine Mi.mk (cc := cX8_isBasin) (maxL := 2) (rt := .boolean) (own := RX8) (by decide) rfl rfl (Nat.le_of_ble_eq_true rfl) ?_
  intro p e s m args below meth c A Q F hK hP hD hA hret ls hl
  obtain ⟨hx, hb, hml, hown, hts⟩ := id F
  have hS : va_S A s.heap s.heap [] := va_S.rf
  have hl : lv_has ls 2 [(0, .ref aM), (1, .int x1)] := hl
  have in_X8 : ∀ w ∈ wsX80, w ∈ wsX8_isBasin := by decide +kernel
  have q1 := hts (Cond.fieldLink RX8 7 "ThirdFountainModel" "d" "[I") (List.mem_of_getElem? (i := 1) rfl)
  have q2 := hts (Cond.methodLink RX8 70 yX8_in) (List.mem_of_getElem? (i := 2) rfl)
  unfold f_X8_isBasin at h
  refine lv_iload_n hx hb dX8_isBasin_0 rfl (lv_at hl 1 rfl) ?_
  refine lv_i2l hx hb dX8_isBasin_1 rfl ?_
  refine lv_lconst (v := 0) hx hb dX8_isBasin_2 (by decide) ?_
  refine lv_aload_n hx hb dX8_isBasin_3 rfl (lv_at hl 0 rfl) ?_
  refine va_get (D := D) (ci := 7) (v := .ref aM_d) (C := RX8) (T := TX8) (N := 43) hx hb hts in_X8 hown hK hP 0 rfl rfl 0 (by decide) q1 (fun _ h9 => h9) rfl dX8_isBasin_4 ?_
  refine lv_iconst (v := 0) hx hb dX8_isBasin_7 (by decide) ?_
  refine va_iald hx hb hK hP 1 0 rfl rfl (by unfold vp_in; decide) dX8_isBasin_8 ?_
  refine lv_iconst (v := 1) hx hb dX8_isBasin_9 (by decide) ?_
  refine lv_isub hx hb dX8_isBasin_10 ?_
  refine lv_i2l hx hb dX8_isBasin_11 rfl ?_
  obtain ⟨u1, hu1, h⟩ := bd_some h
  refine cl_Si (rest := []) F hK hP hD hS hA hl (t_X8_in l D cyI cyJ cyZ cyB cyO x1.toInt64 (0 : Int64) (((cM_d (0 : Int32).toNatClampNeg) - (1 : Int32)).toInt64) u1 hu1) (va_cwS 3 hts gX8_isBasin_X8_in rfl rfl rfl (by decide +kernel) ⟨Nat.le_of_ble_eq_true rfl, Nat.le_of_ble_eq_true rfl⟩) [] [0, 0] [] (w_X8_isBasin cyI cyJ cyZ cyB cyO aM aM_d aM_e aM_f aM_kept aM_found aM_tape aM_came aM_got aM_held aM_off aM_comesUp aM_comesDown aM_path aM_gets aM_gotNow aM_bitsOf aM_sizeOf aM_number aM_passing vM_isKept vM_taped vM_leaked vM_keptAll vM_offAll vM_up vM_down vM_sharesUp vM_sharesDown vM_onUp vM_onDown vM_great vM_triedOff vM_triedLeaked vM_triedKept vM_fitting vM_firstSet vM_inAll vM_inAny vM_at vM_sort vM_from vM_value vM_fault cM_d) rfl rfl rfl (by decide +kernel) rfl rfl (Nat.le_of_ble_eq_true rfl) ⟨Nat.zero_le _, Nat.zero_le _⟩ dX8_isBasin_12 (fun H locs hP hD hS => ?_)
  obtain ⟨g2, h⟩ := gd_some h
  obtain rfl := Option.some.inj h
  exact hret _ _ _ _ _ hP hD hS dX8_isBasin_15 (nz_of g2) rfl
/-! ===== X8_its ===== -/
def w_X8_its (cyI cyJ cyZ cyB cyO : ClassId) (aM aM_d aM_e aM_f aM_kept aM_found aM_tape aM_came aM_got aM_held aM_off aM_comesUp aM_comesDown aM_path aM_gets aM_gotNow aM_bitsOf aM_sizeOf aM_number aM_passing : Nat) (vM_isKept : Int32) (vM_taped : Int32) (vM_leaked : Int32) (vM_keptAll : Int32) (vM_offAll : Int32) (vM_up : Int64) (vM_down : Int64) (vM_sharesUp : Int64) (vM_sharesDown : Int64) (vM_onUp : Int64) (vM_onDown : Int64) (vM_great : Int32) (vM_triedOff : Int32) (vM_triedLeaked : Int32) (vM_triedKept : Int32) (vM_fitting : Int32) (vM_firstSet : Int32) (vM_inAll : Int32) (vM_inAny : Int32) (vM_at : Int32) (vM_sort : Int32) (vM_from : Int32) (vM_value : Int64) (vM_fault : Int32) (cM_d : Nat → Int32) : va_W := [(aM, .inr (7, [.ref aM_d, .ref aM_e, .ref aM_f, .ref aM_kept, .int vM_isKept, .ref aM_found, .ref aM_tape, .int vM_taped, .ref aM_came, .ref aM_got, .ref aM_held, .ref aM_off, .int vM_leaked, .int vM_keptAll, .int vM_offAll, .ref aM_comesUp, .ref aM_comesDown, .long vM_up, .long vM_down, .long vM_sharesUp, .long vM_sharesDown, .long vM_onUp, .long vM_onDown, .int vM_great, .ref aM_path, .ref aM_gets, .int vM_triedOff, .int vM_triedLeaked, .int vM_triedKept, .ref aM_gotNow, .int vM_fitting, .int vM_firstSet, .int vM_inAll, .int vM_inAny, .int vM_at, .int vM_sort, .int vM_from, .long vM_value, .int vM_fault, .ref aM_bitsOf, .ref aM_sizeOf, .ref aM_number, .ref aM_passing])), (aM_d, .inl (cyI, 64, .inl cM_d))]
set_option maxHeartbeats 4000000 in
set_option maxRecDepth 100000 in
theorem t_X8_its (l : Launch) (D : va_G) (cyI cyJ cyZ cyB cyO : ClassId) (aM aM_d aM_e aM_f aM_kept aM_found aM_tape aM_came aM_got aM_held aM_off aM_comesUp aM_comesDown aM_path aM_gets aM_gotNow aM_bitsOf aM_sizeOf aM_number aM_passing : Nat) (vM_isKept : Int32) (vM_taped : Int32) (vM_leaked : Int32) (vM_keptAll : Int32) (vM_offAll : Int32) (vM_up : Int64) (vM_down : Int64) (vM_sharesUp : Int64) (vM_sharesDown : Int64) (vM_onUp : Int64) (vM_onDown : Int64) (vM_great : Int32) (vM_triedOff : Int32) (vM_triedLeaked : Int32) (vM_triedKept : Int32) (vM_fitting : Int32) (vM_firstSet : Int32) (vM_inAll : Int32) (vM_inAny : Int32) (vM_at : Int32) (vM_sort : Int32) (vM_from : Int32) (vM_value : Int64) (vM_fault : Int32) (cM_d : Nat → Int32) (x1 : Int32) (x2 : Int32) (out : Int32) (h : f_X8_its x1 x2 cM_d = some out) : Mi l yX8_its wsX8_its ({ frames := 0, cells := 0, slots := 0, locals := 0 } : Room) D (tyA cyI cyJ cyZ cyB cyO) [.ref aM, .int x1, .int x2] (w_X8_its cyI cyJ cyZ cyB cyO aM aM_d aM_e aM_f aM_kept aM_found aM_tape aM_came aM_got aM_held aM_off aM_comesUp aM_comesDown aM_path aM_gets aM_gotNow aM_bitsOf aM_sizeOf aM_number aM_passing vM_isKept vM_taped vM_leaked vM_keptAll vM_offAll vM_up vM_down vM_sharesUp vM_sharesDown vM_onUp vM_onDown vM_great vM_triedOff vM_triedLeaked vM_triedKept vM_fitting vM_firstSet vM_inAll vM_inAny vM_at vM_sort vM_from vM_value vM_fault cM_d) (w_X8_its cyI cyJ cyZ cyB cyO aM aM_d aM_e aM_f aM_kept aM_found aM_tape aM_came aM_got aM_held aM_off aM_comesUp aM_comesDown aM_path aM_gets aM_gotNow aM_bitsOf aM_sizeOf aM_number aM_passing vM_isKept vM_taped vM_leaked vM_keptAll vM_offAll vM_up vM_down vM_sharesUp vM_sharesDown vM_onUp vM_onDown vM_great vM_triedOff vM_triedLeaked vM_triedKept vM_fitting vM_firstSet vM_inAll vM_inAny vM_at vM_sort vM_from vM_value vM_fault cM_d) out := by
  refine Mi.mk (cc := cX8_its) (maxL := 3) (rt := .int) (own := RX8) (by decide) rfl rfl (Nat.le_of_ble_eq_true rfl) ?_
  intro p e s m args below meth c A Q F hK hP hD hA hret ls hl
  obtain ⟨hx, hb, hml, hown, hts⟩ := id F
  have hS : va_S A s.heap s.heap [] := va_S.rf
  have hl : lv_has ls 3 [(0, .ref aM), (1, .int x1), (2, .int x2)] := hl
  have in_X8 : ∀ w ∈ wsX80, w ∈ wsX8_its := by decide +kernel
  have q1 := hts (Cond.fieldLink RX8 7 "ThirdFountainModel" "d" "[I") (List.mem_of_getElem? (i := 1) rfl)
  unfold f_X8_its at h
  refine lv_aload_n hx hb dX8_its_0 rfl (lv_at hl 0 rfl) ?_
  refine va_get (D := D) (ci := 7) (v := .ref aM_d) (C := RX8) (T := TX8) (N := 43) hx hb hts in_X8 hown hK hP 0 rfl rfl 0 (by decide) q1 (fun _ h9 => h9) rfl dX8_its_1 ?_
  refine lv_iconst (v := 4) hx hb dX8_its_4 (by decide) ?_
  refine lv_iconst (v := 5) hx hb dX8_its_5 (by decide) ?_
  refine lv_iload_n hx hb dX8_its_6 rfl (lv_at hl 1 rfl) ?_
  refine lv_imul hx hb dX8_its_7 ?_
  refine lv_iadd hx hb dX8_its_8 ?_
  refine lv_iload_n hx hb dX8_its_9 rfl (lv_at hl 2 rfl) ?_
  refine lv_iadd hx hb dX8_its_10 ?_
  obtain ⟨g1, h⟩ := gd_some h
  refine va_iald hx hb hK hP 1 0 rfl rfl g1 dX8_its_11 ?_
  obtain rfl := Option.some.inj h
  exact hret _ _ _ _ _ hP hD hS dX8_its_12 rfl rfl
/-! ===== X8_sets ===== -/
def w_X8_sets (cyI cyJ cyZ cyB cyO : ClassId) (aM aM_d aM_e aM_f aM_kept aM_found aM_tape aM_came aM_got aM_held aM_off aM_comesUp aM_comesDown aM_path aM_gets aM_gotNow aM_bitsOf aM_sizeOf aM_number aM_passing : Nat) (vM_isKept : Int32) (vM_taped : Int32) (vM_leaked : Int32) (vM_keptAll : Int32) (vM_offAll : Int32) (vM_up : Int64) (vM_down : Int64) (vM_sharesUp : Int64) (vM_sharesDown : Int64) (vM_onUp : Int64) (vM_onDown : Int64) (vM_great : Int32) (vM_triedOff : Int32) (vM_triedLeaked : Int32) (vM_triedKept : Int32) (vM_fitting : Int32) (vM_firstSet : Int32) (vM_inAll : Int32) (vM_inAny : Int32) (vM_at : Int32) (vM_sort : Int32) (vM_from : Int32) (vM_value : Int64) (vM_fault : Int32) (cM_d : Nat → Int32) : va_W := [(aM, .inr (7, [.ref aM_d, .ref aM_e, .ref aM_f, .ref aM_kept, .int vM_isKept, .ref aM_found, .ref aM_tape, .int vM_taped, .ref aM_came, .ref aM_got, .ref aM_held, .ref aM_off, .int vM_leaked, .int vM_keptAll, .int vM_offAll, .ref aM_comesUp, .ref aM_comesDown, .long vM_up, .long vM_down, .long vM_sharesUp, .long vM_sharesDown, .long vM_onUp, .long vM_onDown, .int vM_great, .ref aM_path, .ref aM_gets, .int vM_triedOff, .int vM_triedLeaked, .int vM_triedKept, .ref aM_gotNow, .int vM_fitting, .int vM_firstSet, .int vM_inAll, .int vM_inAny, .int vM_at, .int vM_sort, .int vM_from, .long vM_value, .int vM_fault, .ref aM_bitsOf, .ref aM_sizeOf, .ref aM_number, .ref aM_passing])), (aM_d, .inl (cyI, 64, .inl cM_d))]
set_option maxHeartbeats 4000000 in
set_option maxRecDepth 100000 in
theorem t_X8_sets (l : Launch) (D : va_G) (cyI cyJ cyZ cyB cyO : ClassId) (aM aM_d aM_e aM_f aM_kept aM_found aM_tape aM_came aM_got aM_held aM_off aM_comesUp aM_comesDown aM_path aM_gets aM_gotNow aM_bitsOf aM_sizeOf aM_number aM_passing : Nat) (vM_isKept : Int32) (vM_taped : Int32) (vM_leaked : Int32) (vM_keptAll : Int32) (vM_offAll : Int32) (vM_up : Int64) (vM_down : Int64) (vM_sharesUp : Int64) (vM_sharesDown : Int64) (vM_onUp : Int64) (vM_onDown : Int64) (vM_great : Int32) (vM_triedOff : Int32) (vM_triedLeaked : Int32) (vM_triedKept : Int32) (vM_fitting : Int32) (vM_firstSet : Int32) (vM_inAll : Int32) (vM_inAny : Int32) (vM_at : Int32) (vM_sort : Int32) (vM_from : Int32) (vM_value : Int64) (vM_fault : Int32) (cM_d : Nat → Int32) (x1 : Int32) (x2 : Int32) (x3 : Int32) (out : (Nat → Int32)) (h : f_X8_sets x1 x2 x3 cM_d = some out) : Mv l yX8_sets wsX8_sets ({ frames := 0, cells := 0, slots := 0, locals := 0 } : Room) D (tyA cyI cyJ cyZ cyB cyO) [.ref aM, .int x1, .int x2, .int x3] (w_X8_sets cyI cyJ cyZ cyB cyO aM aM_d aM_e aM_f aM_kept aM_found aM_tape aM_came aM_got aM_held aM_off aM_comesUp aM_comesDown aM_path aM_gets aM_gotNow aM_bitsOf aM_sizeOf aM_number aM_passing vM_isKept vM_taped vM_leaked vM_keptAll vM_offAll vM_up vM_down vM_sharesUp vM_sharesDown vM_onUp vM_onDown vM_great vM_triedOff vM_triedLeaked vM_triedKept vM_fitting vM_firstSet vM_inAll vM_inAny vM_at vM_sort vM_from vM_value vM_fault cM_d) (w_X8_sets cyI cyJ cyZ cyB cyO aM aM_d aM_e aM_f aM_kept aM_found aM_tape aM_came aM_got aM_held aM_off aM_comesUp aM_comesDown aM_path aM_gets aM_gotNow aM_bitsOf aM_sizeOf aM_number aM_passing vM_isKept vM_taped vM_leaked vM_keptAll vM_offAll vM_up vM_down vM_sharesUp vM_sharesDown vM_onUp vM_onDown vM_great vM_triedOff vM_triedLeaked vM_triedKept vM_fitting vM_firstSet vM_inAll vM_inAny vM_at vM_sort vM_from vM_value vM_fault out) := by
  refine Mv.mk (cc := cX8_sets) (maxL := 4) (own := RX8) (by decide) rfl rfl (Nat.le_of_ble_eq_true rfl) ?_
  intro p e s m args below meth c A Q F hK hP hD hA hret ls hl
  obtain ⟨hx, hb, hml, hown, hts⟩ := id F
  have hS : va_S A s.heap s.heap [] := va_S.rf
  have hl : lv_has ls 4 [(0, .ref aM), (1, .int x1), (2, .int x2), (3, .int x3)] := hl
  have in_X8 : ∀ w ∈ wsX80, w ∈ wsX8_sets := by decide +kernel
  have q1 := hts (Cond.fieldLink RX8 7 "ThirdFountainModel" "d" "[I") (List.mem_of_getElem? (i := 1) rfl)
  unfold f_X8_sets at h
  refine lv_aload_n hx hb dX8_sets_0 rfl (lv_at hl 0 rfl) ?_
  refine va_get (D := D) (ci := 7) (v := .ref aM_d) (C := RX8) (T := TX8) (N := 43) hx hb hts in_X8 hown hK hP 0 rfl rfl 0 (by decide) q1 (fun _ h9 => h9) rfl dX8_sets_1 ?_
  refine lv_iconst (v := 4) hx hb dX8_sets_4 (by decide) ?_
  refine lv_iconst (v := 5) hx hb dX8_sets_5 (by decide) ?_
  refine lv_iload_n hx hb dX8_sets_6 rfl (lv_at hl 1 rfl) ?_
  refine lv_imul hx hb dX8_sets_7 ?_
  refine lv_iadd hx hb dX8_sets_8 ?_
  refine lv_iload_n hx hb dX8_sets_9 rfl (lv_at hl 2 rfl) ?_
  refine lv_iadd hx hb dX8_sets_10 ?_
  refine lv_iload_n hx hb dX8_sets_11 rfl (lv_at hl 3 rfl) ?_
  obtain ⟨g1, h⟩ := gd_some h
  refine va_iast hx hb hK hP hD hS 1 0 rfl rfl g1 dX8_sets_12 (fun H locs hP hD hS => ?_)
  have hP : va_P D vwCl (w_X8_sets cyI cyJ cyZ cyB cyO aM aM_d aM_e aM_f aM_kept aM_found aM_tape aM_came aM_got aM_held aM_off aM_comesUp aM_comesDown aM_path aM_gets aM_gotNow aM_bitsOf aM_sizeOf aM_number aM_passing vM_isKept vM_taped vM_leaked vM_keptAll vM_offAll vM_up vM_down vM_sharesUp vM_sharesDown vM_onUp vM_onDown vM_great vM_triedOff vM_triedLeaked vM_triedKept vM_fitting vM_firstSet vM_inAll vM_inAny vM_at vM_sort vM_from vM_value vM_fault (upd cM_d (((4 : Int32) + ((5 : Int32) * x1)) + x2).toNatClampNeg x3)) H := hP
  have hD : va_D A (w_X8_sets cyI cyJ cyZ cyB cyO aM aM_d aM_e aM_f aM_kept aM_found aM_tape aM_came aM_got aM_held aM_off aM_comesUp aM_comesDown aM_path aM_gets aM_gotNow aM_bitsOf aM_sizeOf aM_number aM_passing vM_isKept vM_taped vM_leaked vM_keptAll vM_offAll vM_up vM_down vM_sharesUp vM_sharesDown vM_onUp vM_onDown vM_great vM_triedOff vM_triedLeaked vM_triedKept vM_fitting vM_firstSet vM_inAll vM_inAny vM_at vM_sort vM_from vM_value vM_fault (upd cM_d (((4 : Int32) + ((5 : Int32) * x1)) + x2).toNatClampNeg x3)) := hD
  obtain rfl := Option.some.inj h
  exact hret _ _ _ _ hP hD hS dX8_sets_13 
/-! ===== X8_leaks ===== -/
def w_X8_leaks (cyI cyJ cyZ cyB cyO : ClassId) : va_W := []
set_option maxHeartbeats 4000000 in
set_option maxRecDepth 100000 in
theorem t_X8_leaks (l : Launch) (D : va_G) (cyI cyJ cyZ cyB cyO : ClassId) (x0 : Int32) (x1 : Int32) (out : Int32) (h : f_X8_leaks x0 x1 = some out) : Mi l yX8_leaks wsX8_leaks ({ frames := 0, cells := 0, slots := 0, locals := 0 } : Room) D (tyA cyI cyJ cyZ cyB cyO) [.int x0, .int x1] (w_X8_leaks cyI cyJ cyZ cyB cyO ) (w_X8_leaks cyI cyJ cyZ cyB cyO ) out := by
  refine Mi.mk (cc := cX8_leaks) (maxL := 2) (rt := .int) (own := RX8) (by decide) rfl rfl (Nat.le_of_ble_eq_true rfl) ?_
  intro p e s m args below meth c A Q F hK hP hD hA hret ls hl
  obtain ⟨hx, hb, hml, hown, hts⟩ := id F
  have hS : va_S A s.heap s.heap [] := va_S.rf
  have hl : lv_has ls 2 [(0, .int x0), (1, .int x1)] := hl
  unfold f_X8_leaks at h
  refine lv_iload_n hx hb dX8_leaks_0 rfl (lv_at hl 0 rfl) ?_
  refine lv_iconst (v := 2) hx hb dX8_leaks_1 (by decide) ?_
  refine lv_icmp_ne (tgt := 12) hx hb dX8_leaks_2 (by decide) (fun c1 => ?_) (fun c1 => ?_)
  · have h := br_neg c1 h
    refine lv_iload_n hx hb dX8_leaks_12 rfl (lv_at hl 0 rfl) ?_
    refine lv_iconst (v := 4) hx hb dX8_leaks_13 (by decide) ?_
    refine lv_icmp_ne (tgt := 26) hx hb dX8_leaks_14 (by decide) (fun c2 => ?_) (fun c2 => ?_)
    · have h := br_neg c2 h
      refine lv_iconst (v := 0) hx hb dX8_leaks_26 (by decide) ?_
      obtain rfl := Option.some.inj h
      exact hret _ _ _ _ _ hP hD hS dX8_leaks_27 rfl rfl
    · have h := br_pos c2 h
      refine lv_iconst (v := 2) hx hb dX8_leaks_17 (by decide) ?_
      refine lv_iload_n hx hb dX8_leaks_18 rfl (lv_at hl 1 rfl) ?_
      refine lv_bipush (v := 10) hx hb dX8_leaks_19 (by decide) ?_
      refine lv_idiv hx hb dX8_leaks_21 (by decide) ?_
      refine lv_imul hx hb dX8_leaks_22 ?_
      refine lv_goto (tgt := 27) hx hb dX8_leaks_23 (by decide) ?_
      obtain rfl := Option.some.inj h
      exact hret _ _ _ _ _ hP hD hS dX8_leaks_27 rfl rfl
  · have h := br_pos c1 h
    refine lv_iload_n hx hb dX8_leaks_5 rfl (lv_at hl 1 rfl) ?_
    refine lv_bipush (v := 10) hx hb dX8_leaks_6 (by decide) ?_
    refine lv_idiv hx hb dX8_leaks_8 (by decide) ?_
    refine lv_goto (tgt := 27) hx hb dX8_leaks_9 (by decide) ?_
    obtain rfl := Option.some.inj h
    exact hret _ _ _ _ _ hP hD hS dX8_leaks_27 rfl rfl
/-! ===== X8_keeps ===== -/
def w_X8_keeps (cyI cyJ cyZ cyB cyO : ClassId) : va_W := []
set_option maxHeartbeats 4000000 in
set_option maxRecDepth 100000 in
theorem t_X8_keeps (l : Launch) (D : va_G) (cyI cyJ cyZ cyB cyO : ClassId) (x0 : Int32) (x1 : Int32) (out : Int32) (h : f_X8_keeps x0 x1 = some out) : Mi l yX8_keeps wsX8_keeps ({ frames := 0, cells := 0, slots := 0, locals := 0 } : Room) D (tyA cyI cyJ cyZ cyB cyO) [.int x0, .int x1] (w_X8_keeps cyI cyJ cyZ cyB cyO ) (w_X8_keeps cyI cyJ cyZ cyB cyO ) out := by
  refine Mi.mk (cc := cX8_keeps) (maxL := 2) (rt := .int) (own := RX8) (by decide) rfl rfl (Nat.le_of_ble_eq_true rfl) ?_
  intro p e s m args below meth c A Q F hK hP hD hA hret ls hl
  obtain ⟨hx, hb, hml, hown, hts⟩ := id F
  have hS : va_S A s.heap s.heap [] := va_S.rf
  have hl : lv_has ls 2 [(0, .int x0), (1, .int x1)] := hl
  unfold f_X8_keeps at h
  refine lv_iload_n hx hb dX8_keeps_0 rfl (lv_at hl 0 rfl) ?_
  refine lv_iconst (v := 3) hx hb dX8_keeps_1 (by decide) ?_
  refine lv_icmp_ne (tgt := 9) hx hb dX8_keeps_2 (by decide) (fun c1 => ?_) (fun c1 => ?_)
  · have h := br_neg c1 h
    refine lv_iload_n hx hb dX8_keeps_9 rfl (lv_at hl 0 rfl) ?_
    refine lv_iconst (v := 1) hx hb dX8_keeps_10 (by decide) ?_
    refine lv_icmp_ne (tgt := 22) hx hb dX8_keeps_11 (by decide) (fun c2 => ?_) (fun c2 => ?_)
    · have h := br_neg c2 h
      refine lv_iload_n hx hb dX8_keeps_22 rfl (lv_at hl 1 rfl) ?_
      refine lv_iconst (v := 3) hx hb dX8_keeps_23 (by decide) ?_
      refine lv_idiv hx hb dX8_keeps_24 (by decide) ?_
      obtain rfl := Option.some.inj h
      exact hret _ _ _ _ _ hP hD hS dX8_keeps_25 rfl rfl
    · have h := br_pos c2 h
      refine lv_iconst (v := 2) hx hb dX8_keeps_14 (by decide) ?_
      refine lv_iload_n hx hb dX8_keeps_15 rfl (lv_at hl 1 rfl) ?_
      refine lv_imul hx hb dX8_keeps_16 ?_
      refine lv_iconst (v := 5) hx hb dX8_keeps_17 (by decide) ?_
      refine lv_idiv hx hb dX8_keeps_18 (by decide) ?_
      refine lv_goto (tgt := 25) hx hb dX8_keeps_19 (by decide) ?_
      obtain rfl := Option.some.inj h
      exact hret _ _ _ _ _ hP hD hS dX8_keeps_25 rfl rfl
  · have h := br_pos c1 h
    refine lv_iconst (v := 0) hx hb dX8_keeps_5 (by decide) ?_
    refine lv_goto (tgt := 25) hx hb dX8_keeps_6 (by decide) ?_
    obtain rfl := Option.some.inj h
    exact hret _ _ _ _ _ hP hD hS dX8_keeps_25 rfl rfl
/-! ===== X8_holds ===== -/
def w_X8_holds (cyI cyJ cyZ cyB cyO : ClassId) : va_W := []
set_option maxHeartbeats 4000000 in
set_option maxRecDepth 100000 in
theorem t_X8_holds (l : Launch) (D : va_G) (cyI cyJ cyZ cyB cyO : ClassId) (x0 : Int32) (x1 : Int32) (x2 : Int32) (out : Int32) (h : f_X8_holds x0 x1 x2 = some out) : Mi l yX8_holds wsX8_holds ({ frames := 0, cells := 0, slots := 0, locals := 0 } : Room) D (tyA cyI cyJ cyZ cyB cyO) [.int x0, .int x1, .int x2] (w_X8_holds cyI cyJ cyZ cyB cyO ) (w_X8_holds cyI cyJ cyZ cyB cyO ) out := by
  refine Mi.mk (cc := cX8_holds) (maxL := 3) (rt := .int) (own := RX8) (by decide) rfl rfl (Nat.le_of_ble_eq_true rfl) ?_
  intro p e s m args below meth c A Q F hK hP hD hA hret ls hl
  obtain ⟨hx, hb, hml, hown, hts⟩ := id F
  have hS : va_S A s.heap s.heap [] := va_S.rf
  have hl : lv_has ls 3 [(0, .int x0), (1, .int x1), (2, .int x2)] := hl
  unfold f_X8_holds at h
  refine lv_iload_n hx hb dX8_holds_0 rfl (lv_at hl 0 rfl) ?_
  refine lv_iconst (v := 5) hx hb dX8_holds_1 (by decide) ?_
  refine lv_icmp_eq (tgt := 11) hx hb dX8_holds_2 (by decide) (fun c1 => ?_) (fun c1 => ?_)
  · have h := br_pos c1 h
    refine lv_iload_n hx hb dX8_holds_11 rfl (lv_at hl 0 rfl) ?_
    refine lv_bipush (v := 6) hx hb dX8_holds_12 (by decide) ?_
    have j25 : ∀ (H : Heap) (locs : List Loc) (ls : Array Slot), va_P D vwCl (w_X8_holds cyI cyJ cyZ cyB cyO ) H → va_D A (w_X8_holds cyI cyJ cyZ cyB cyO ) → va_S A s.heap H locs → lv_has ls 3 [(1, .int x1), (2, .int x2)] → f_X8_holds_J25 x0 x1 x2 = some out → W p l e ({ frames := 0, cells := 0, slots := 0, locals := 0 } : Room) s m args below meth c H locs 0 0 Q (F0 m 25 ls []) := by
      intro  H locs ls hP hD hS hl h
      unfold f_X8_holds_J25 at h
      refine lv_iload_n hx hb dX8_holds_25 rfl (lv_at hl 0 rfl) ?_
      refine lv_bipush (v := 30) hx hb dX8_holds_26 (by decide) ?_
      refine lv_iload_n hx hb dX8_holds_28 rfl (lv_at hl 1 rfl) ?_
      refine lv_isub hx hb dX8_holds_29 ?_
      refine lv_icmp_ge (tgt := 37) hx hb dX8_holds_30 (by decide) (fun c2 => ?_) (fun c2 => ?_)
      · have h := br_pos c2 h
        refine lv_bipush (v := 30) hx hb dX8_holds_37 (by decide) ?_
        refine lv_iload_n hx hb dX8_holds_39 rfl (lv_at hl 1 rfl) ?_
        refine lv_isub hx hb dX8_holds_40 ?_
        obtain rfl := Option.some.inj h
        exact hret _ _ _ _ _ hP hD hS dX8_holds_41 rfl rfl
      · have h := br_neg c2 h
        refine lv_iload_n hx hb dX8_holds_33 rfl (lv_at hl 0 rfl) ?_
        refine lv_goto (tgt := 41) hx hb dX8_holds_34 (by decide) ?_
        obtain rfl := Option.some.inj h
        exact hret _ _ _ _ _ hP hD hS dX8_holds_41 rfl rfl
    refine lv_icmp_ne (tgt := 25) hx hb dX8_holds_14 (by decide) (fun c3 => ?_) (fun c3 => ?_)
    · have h := br_neg c3 h
      exact j25  _ _ _ hP hD hS (lv_sub hl [1, 2] rfl) h
    · have h := br_pos c3 h
      refine lv_iload_n hx hb dX8_holds_17 rfl (lv_at hl 1 rfl) ?_
      refine lv_bipush (v := 100) hx hb dX8_holds_18 (by decide) ?_
      refine lv_icmp_le (tgt := 25) hx hb dX8_holds_20 (by decide) (fun c4 => ?_) (fun c4 => ?_)
      · have h := br_pos c4 h
        exact j25  _ _ _ hP hD hS (lv_sub hl [1, 2] rfl) h
      · have h := br_neg c4 h
        refine lv_iconst (v := 0) hx hb dX8_holds_23 (by decide) ?_
        obtain rfl := Option.some.inj h
        exact hret _ _ _ _ _ hP hD hS dX8_holds_24 rfl rfl
  · have h := br_neg c1 h
    refine lv_iload_n hx hb dX8_holds_5 rfl (lv_at hl 0 rfl) ?_
    refine lv_bipush (v := 6) hx hb dX8_holds_6 (by decide) ?_
    refine lv_icmp_ne (tgt := 23) hx hb dX8_holds_8 (by decide) (fun c5 => ?_) (fun c5 => ?_)
    · have h := br_neg c5 h
      refine lv_iconst (v := 0) hx hb dX8_holds_23 (by decide) ?_
      obtain rfl := Option.some.inj h
      exact hret _ _ _ _ _ hP hD hS dX8_holds_24 rfl rfl
    · have h := br_pos c5 h
      refine lv_iload_n hx hb dX8_holds_11 rfl (lv_at hl 0 rfl) ?_
      refine lv_bipush (v := 6) hx hb dX8_holds_12 (by decide) ?_
      have j25 : ∀ (H : Heap) (locs : List Loc) (ls : Array Slot), va_P D vwCl (w_X8_holds cyI cyJ cyZ cyB cyO ) H → va_D A (w_X8_holds cyI cyJ cyZ cyB cyO ) → va_S A s.heap H locs → lv_has ls 3 [(1, .int x1), (2, .int x2)] → f_X8_holds_J25 x0 x1 x2 = some out → W p l e ({ frames := 0, cells := 0, slots := 0, locals := 0 } : Room) s m args below meth c H locs 0 0 Q (F0 m 25 ls []) := by
        intro  H locs ls hP hD hS hl h
        unfold f_X8_holds_J25 at h
        refine lv_iload_n hx hb dX8_holds_25 rfl (lv_at hl 0 rfl) ?_
        refine lv_bipush (v := 30) hx hb dX8_holds_26 (by decide) ?_
        refine lv_iload_n hx hb dX8_holds_28 rfl (lv_at hl 1 rfl) ?_
        refine lv_isub hx hb dX8_holds_29 ?_
        refine lv_icmp_ge (tgt := 37) hx hb dX8_holds_30 (by decide) (fun c6 => ?_) (fun c6 => ?_)
        · have h := br_pos c6 h
          refine lv_bipush (v := 30) hx hb dX8_holds_37 (by decide) ?_
          refine lv_iload_n hx hb dX8_holds_39 rfl (lv_at hl 1 rfl) ?_
          refine lv_isub hx hb dX8_holds_40 ?_
          obtain rfl := Option.some.inj h
          exact hret _ _ _ _ _ hP hD hS dX8_holds_41 rfl rfl
        · have h := br_neg c6 h
          refine lv_iload_n hx hb dX8_holds_33 rfl (lv_at hl 0 rfl) ?_
          refine lv_goto (tgt := 41) hx hb dX8_holds_34 (by decide) ?_
          obtain rfl := Option.some.inj h
          exact hret _ _ _ _ _ hP hD hS dX8_holds_41 rfl rfl
      refine lv_icmp_ne (tgt := 25) hx hb dX8_holds_14 (by decide) (fun c7 => ?_) (fun c7 => ?_)
      · have h := br_neg c7 h
        exact j25  _ _ _ hP hD hS (lv_sub hl [1, 2] rfl) h
      · have h := br_pos c7 h
        refine lv_iload_n hx hb dX8_holds_17 rfl (lv_at hl 1 rfl) ?_
        refine lv_bipush (v := 100) hx hb dX8_holds_18 (by decide) ?_
        refine lv_icmp_le (tgt := 25) hx hb dX8_holds_20 (by decide) (fun c8 => ?_) (fun c8 => ?_)
        · have h := br_pos c8 h
          exact j25  _ _ _ hP hD hS (lv_sub hl [1, 2] rfl) h
        · have h := br_neg c8 h
          refine lv_iconst (v := 0) hx hb dX8_holds_23 (by decide) ?_
          obtain rfl := Option.some.inj h
          exact hret _ _ _ _ _ hP hD hS dX8_holds_24 rfl rfl
/-! ===== X8_edgesBelow ===== -/
def w_X8_edgesBelow (cyI cyJ cyZ cyB cyO : ClassId) (aM aM_d aM_e aM_f aM_kept aM_found aM_tape aM_came aM_got aM_held aM_off aM_comesUp aM_comesDown aM_path aM_gets aM_gotNow aM_bitsOf aM_sizeOf aM_number aM_passing : Nat) (vM_isKept : Int32) (vM_taped : Int32) (vM_leaked : Int32) (vM_keptAll : Int32) (vM_offAll : Int32) (vM_up : Int64) (vM_down : Int64) (vM_sharesUp : Int64) (vM_sharesDown : Int64) (vM_onUp : Int64) (vM_onDown : Int64) (vM_great : Int32) (vM_triedOff : Int32) (vM_triedLeaked : Int32) (vM_triedKept : Int32) (vM_fitting : Int32) (vM_firstSet : Int32) (vM_inAll : Int32) (vM_inAny : Int32) (vM_at : Int32) (vM_sort : Int32) (vM_from : Int32) (vM_value : Int64) (vM_fault : Int32) (cM_d : Nat → Int32) : va_W := [(aM, .inr (7, [.ref aM_d, .ref aM_e, .ref aM_f, .ref aM_kept, .int vM_isKept, .ref aM_found, .ref aM_tape, .int vM_taped, .ref aM_came, .ref aM_got, .ref aM_held, .ref aM_off, .int vM_leaked, .int vM_keptAll, .int vM_offAll, .ref aM_comesUp, .ref aM_comesDown, .long vM_up, .long vM_down, .long vM_sharesUp, .long vM_sharesDown, .long vM_onUp, .long vM_onDown, .int vM_great, .ref aM_path, .ref aM_gets, .int vM_triedOff, .int vM_triedLeaked, .int vM_triedKept, .ref aM_gotNow, .int vM_fitting, .int vM_firstSet, .int vM_inAll, .int vM_inAny, .int vM_at, .int vM_sort, .int vM_from, .long vM_value, .int vM_fault, .ref aM_bitsOf, .ref aM_sizeOf, .ref aM_number, .ref aM_passing])), (aM_d, .inl (cyI, 64, .inl cM_d))]
set_option maxHeartbeats 4000000 in
set_option maxRecDepth 100000 in
theorem t_X8_edgesBelow (l : Launch) (D : va_G) (cyI cyJ cyZ cyB cyO : ClassId) (aM aM_d aM_e aM_f aM_kept aM_found aM_tape aM_came aM_got aM_held aM_off aM_comesUp aM_comesDown aM_path aM_gets aM_gotNow aM_bitsOf aM_sizeOf aM_number aM_passing : Nat) (vM_isKept : Int32) (vM_taped : Int32) (vM_leaked : Int32) (vM_keptAll : Int32) (vM_offAll : Int32) (vM_up : Int64) (vM_down : Int64) (vM_sharesUp : Int64) (vM_sharesDown : Int64) (vM_onUp : Int64) (vM_onDown : Int64) (vM_great : Int32) (vM_triedOff : Int32) (vM_triedLeaked : Int32) (vM_triedKept : Int32) (vM_fitting : Int32) (vM_firstSet : Int32) (vM_inAll : Int32) (vM_inAny : Int32) (vM_at : Int32) (vM_sort : Int32) (vM_from : Int32) (vM_value : Int64) (vM_fault : Int32) (cM_d : Nat → Int32) (x1 : Int32) (out : Int32) (h : f_X8_edgesBelow x1 cM_d = some out) : Mi l yX8_edgesBelow wsX8_edgesBelow ({ frames := 1, cells := 0, slots := 0, locals := 22 } : Room) D (tyA cyI cyJ cyZ cyB cyO) [.ref aM, .int x1] (w_X8_edgesBelow cyI cyJ cyZ cyB cyO aM aM_d aM_e aM_f aM_kept aM_found aM_tape aM_came aM_got aM_held aM_off aM_comesUp aM_comesDown aM_path aM_gets aM_gotNow aM_bitsOf aM_sizeOf aM_number aM_passing vM_isKept vM_taped vM_leaked vM_keptAll vM_offAll vM_up vM_down vM_sharesUp vM_sharesDown vM_onUp vM_onDown vM_great vM_triedOff vM_triedLeaked vM_triedKept vM_fitting vM_firstSet vM_inAll vM_inAny vM_at vM_sort vM_from vM_value vM_fault cM_d) (w_X8_edgesBelow cyI cyJ cyZ cyB cyO aM aM_d aM_e aM_f aM_kept aM_found aM_tape aM_came aM_got aM_held aM_off aM_comesUp aM_comesDown aM_path aM_gets aM_gotNow aM_bitsOf aM_sizeOf aM_number aM_passing vM_isKept vM_taped vM_leaked vM_keptAll vM_offAll vM_up vM_down vM_sharesUp vM_sharesDown vM_onUp vM_onDown vM_great vM_triedOff vM_triedLeaked vM_triedKept vM_fitting vM_firstSet vM_inAll vM_inAny vM_at vM_sort vM_from vM_value vM_fault cM_d) out := by
  refine Mi.mk (cc := cX8_edgesBelow) (maxL := 4) (rt := .int) (own := RX8) (by decide) rfl rfl (Nat.le_of_ble_eq_true rfl) ?_
  intro p e s m args below meth c A Q F hK hP hD hA hret ls hl
  obtain ⟨hx, hb, hml, hown, hts⟩ := id F
  have hS : va_S A s.heap s.heap [] := va_S.rf
  have hl : lv_has ls 4 [(0, .ref aM), (1, .int x1)] := hl
  have in_X8 : ∀ w ∈ wsX80, w ∈ wsX8_edgesBelow := by decide +kernel
  have q1 := hts (Cond.fieldLink RX8 7 "ThirdFountainModel" "d" "[I") (List.mem_of_getElem? (i := 1) rfl)
  have q2 := hts (Cond.methodLink RX8 74 yX8_its) (List.mem_of_getElem? (i := 2) rfl)
  unfold f_X8_edgesBelow at h
  refine lv_iconst (v := 0) hx hb dX8_edgesBelow_0 (by decide) ?_
  refine lv_istore_n (lv' := [(2, .int (0 : Int32)), (0, .ref aM), (1, .int x1)]) hx hb dX8_edgesBelow_1 rfl hl (by decide) rfl (fun ls hl => ?_)
  refine lv_iload_n hx hb dX8_edgesBelow_2 rfl (lv_at hl 2 rfl) ?_
  refine lv_iconst (v := 1) hx hb dX8_edgesBelow_3 (by decide) ?_
  refine lv_iadd hx hb dX8_edgesBelow_4 ?_
  refine lv_topi (fun z1 ez1 => ?_)
  have h := nm_at ez1 h
  refine lv_istore_n (lv' := [(3, .int z1), (2, .int (0 : Int32)), (0, .ref aM), (1, .int x1)]) hx hb dX8_edgesBelow_5 rfl hl (by decide) rfl (fun ls hl => ?_)
  have lp6 : ∀ (k6 : Nat) (y2 : Int32) (y3 : Int32) (H : Heap) (locs : List Loc) (ls : Array Slot), va_P D vwCl (w_X8_edgesBelow cyI cyJ cyZ cyB cyO aM aM_d aM_e aM_f aM_kept aM_found aM_tape aM_came aM_got aM_held aM_off aM_comesUp aM_comesDown aM_path aM_gets aM_gotNow aM_bitsOf aM_sizeOf aM_number aM_passing vM_isKept vM_taped vM_leaked vM_keptAll vM_offAll vM_up vM_down vM_sharesUp vM_sharesDown vM_onUp vM_onDown vM_great vM_triedOff vM_triedLeaked vM_triedKept vM_fitting vM_firstSet vM_inAll vM_inAny vM_at vM_sort vM_from vM_value vM_fault cM_d) H → va_D A (w_X8_edgesBelow cyI cyJ cyZ cyB cyO aM aM_d aM_e aM_f aM_kept aM_found aM_tape aM_came aM_got aM_held aM_off aM_comesUp aM_comesDown aM_path aM_gets aM_gotNow aM_bitsOf aM_sizeOf aM_number aM_passing vM_isKept vM_taped vM_leaked vM_keptAll vM_offAll vM_up vM_down vM_sharesUp vM_sharesDown vM_onUp vM_onDown vM_great vM_triedOff vM_triedLeaked vM_triedKept vM_fitting vM_firstSet vM_inAll vM_inAny vM_at vM_sort vM_from vM_value vM_fault cM_d) → va_S A s.heap H locs → lv_has ls 4 [(2, .int y2), (3, .int y3), (0, .ref aM), (1, .int x1)] → (f_X8_edgesBelow_L6 x1 cM_d k6) (y2, y3) = some out → W p l e ({ frames := 1, cells := 0, slots := 0, locals := 22 } : Room) s m args below meth c H locs 0 0 Q (F0 m 6 ls []) := by
    intro k6
    induction k6 with
    | zero => intro y2 y3 H locs ls hP hD hS hl h; cases h
    | succ k6 ih6 =>
      intro y2 y3 H locs ls hP hD hS hl h
      have h : f_X8_edgesBelow_L6_b x1 cM_d (f_X8_edgesBelow_L6 x1 cM_d k6) y2 y3 = some out := h
      unfold f_X8_edgesBelow_L6_b at h
      refine lv_iload_n hx hb dX8_edgesBelow_6 rfl (lv_at hl 1 rfl) ?_
      refine lv_aload_n hx hb dX8_edgesBelow_7 rfl (lv_at hl 2 rfl) ?_
      refine va_get (D := D) (ci := 7) (v := .ref aM_d) (C := RX8) (T := TX8) (N := 43) hx hb hts in_X8 hown hK hP 0 rfl rfl 0 (by decide) q1 (fun _ h9 => h9) rfl dX8_edgesBelow_8 ?_
      refine lv_iconst (v := 0) hx hb dX8_edgesBelow_11 (by decide) ?_
      refine va_iald hx hb hK hP 1 0 rfl rfl (by unfold vp_in; decide) dX8_edgesBelow_12 ?_
      refine lv_icmp_ge (tgt := 45) hx hb dX8_edgesBelow_13 (by decide) (fun c2 => ?_) (fun c2 => ?_)
      · have h := br_pos c2 h
        refine lv_iload_n hx hb dX8_edgesBelow_45 rfl (lv_at hl 0 rfl) ?_
        obtain rfl := Option.some.inj h
        exact hret _ _ _ _ _ hP hD hS dX8_edgesBelow_46 rfl rfl
      · have h := br_neg c2 h
        refine lv_iload_n hx hb dX8_edgesBelow_16 rfl (lv_at hl 0 rfl) ?_
        refine lv_aload_n hx hb dX8_edgesBelow_17 rfl (lv_at hl 2 rfl) ?_
        refine lv_iload_n hx hb dX8_edgesBelow_18 rfl (lv_at hl 1 rfl) ?_
        refine lv_iconst (v := 1) hx hb dX8_edgesBelow_19 (by decide) ?_
        obtain ⟨u3, hu3, h⟩ := bd_some h
        refine cl_Vi (rest := [.int y2]) F hK hP hD hS hA hl (t_X8_its l D cyI cyJ cyZ cyB cyO aM aM_d aM_e aM_f aM_kept aM_found aM_tape aM_came aM_got aM_held aM_off aM_comesUp aM_comesDown aM_path aM_gets aM_gotNow aM_bitsOf aM_sizeOf aM_number aM_passing vM_isKept vM_taped vM_leaked vM_keptAll vM_offAll vM_up vM_down vM_sharesUp vM_sharesDown vM_onUp vM_onDown vM_great vM_triedOff vM_triedLeaked vM_triedKept vM_fitting vM_firstSet vM_inAll vM_inAny vM_at vM_sort vM_from vM_value vM_fault cM_d y3 (1 : Int32) u3 hu3) (cwV 2 hts gX8_edgesBelow_X8_its rfl rfl rfl (by decide +kernel) ⟨Nat.le_of_ble_eq_true rfl, Nat.le_of_ble_eq_true rfl⟩) 0 [0, 1] [1, 2] [] (w_X8_edgesBelow cyI cyJ cyZ cyB cyO aM aM_d aM_e aM_f aM_kept aM_found aM_tape aM_came aM_got aM_held aM_off aM_comesUp aM_comesDown aM_path aM_gets aM_gotNow aM_bitsOf aM_sizeOf aM_number aM_passing vM_isKept vM_taped vM_leaked vM_keptAll vM_offAll vM_up vM_down vM_sharesUp vM_sharesDown vM_onUp vM_onDown vM_great vM_triedOff vM_triedLeaked vM_triedKept vM_fitting vM_firstSet vM_inAll vM_inAny vM_at vM_sort vM_from vM_value vM_fault cM_d) rfl rfl rfl rfl rfl (by decide +kernel) rfl rfl (Nat.le_of_ble_eq_true rfl) ⟨Nat.zero_le _, Nat.zero_le _⟩ dX8_edgesBelow_20 (fun H locs hP hD hS => ?_)
        refine lv_iload_n hx hb dX8_edgesBelow_23 rfl (lv_at hl 3 rfl) ?_
        refine lv_icmp_ne (tgt := 36) hx hb dX8_edgesBelow_24 (by decide) (fun c4 => ?_) (fun c4 => ?_)
        · have h := br_neg c4 h
          refine lv_iconst (v := 0) hx hb dX8_edgesBelow_36 (by decide) ?_
          refine lv_iadd hx hb dX8_edgesBelow_37 ?_
          refine lv_topi (fun z5 ez5 => ?_)
          have h := nm_at ez5 h
          refine lv_istore_n (lv' := [(2, .int z5), (3, .int y3), (0, .ref aM), (1, .int x1)]) hx hb dX8_edgesBelow_38 rfl hl (by decide) rfl (fun ls hl => ?_)
          refine lv_iinc (v := y3 + 1) (lv' := [(3, .int (y3 + 1)), (2, .int z5), (0, .ref aM), (1, .int x1)]) hx hb dX8_edgesBelow_39 hl (k := 1) rfl rfl (by decide) rfl (fun ls hl => ?_)
          refine lv_goto (tgt := 6) hx hb dX8_edgesBelow_42 (by decide) ?_
          exact ih6 z5 (y3 + 1) _ _ _ hP hD hS (lv_sub hl [1, 0, 2, 3] rfl) h
        · have h := br_pos c4 h
          refine lv_aload_n hx hb dX8_edgesBelow_27 rfl (lv_at hl 2 rfl) ?_
          refine lv_iload_n hx hb dX8_edgesBelow_28 rfl (lv_at hl 1 rfl) ?_
          refine lv_iconst (v := 2) hx hb dX8_edgesBelow_29 (by decide) ?_
          obtain ⟨u6, hu6, h⟩ := bd_some h
          refine cl_Vi (rest := [.int y2]) F hK hP hD hS hA hl (t_X8_its l D cyI cyJ cyZ cyB cyO aM aM_d aM_e aM_f aM_kept aM_found aM_tape aM_came aM_got aM_held aM_off aM_comesUp aM_comesDown aM_path aM_gets aM_gotNow aM_bitsOf aM_sizeOf aM_number aM_passing vM_isKept vM_taped vM_leaked vM_keptAll vM_offAll vM_up vM_down vM_sharesUp vM_sharesDown vM_onUp vM_onDown vM_great vM_triedOff vM_triedLeaked vM_triedKept vM_fitting vM_firstSet vM_inAll vM_inAny vM_at vM_sort vM_from vM_value vM_fault cM_d y3 (2 : Int32) u6 hu6) (cwV 2 hts gX8_edgesBelow_X8_its rfl rfl rfl (by decide +kernel) ⟨Nat.le_of_ble_eq_true rfl, Nat.le_of_ble_eq_true rfl⟩) 0 [0, 1] [1, 2] [] (w_X8_edgesBelow cyI cyJ cyZ cyB cyO aM aM_d aM_e aM_f aM_kept aM_found aM_tape aM_came aM_got aM_held aM_off aM_comesUp aM_comesDown aM_path aM_gets aM_gotNow aM_bitsOf aM_sizeOf aM_number aM_passing vM_isKept vM_taped vM_leaked vM_keptAll vM_offAll vM_up vM_down vM_sharesUp vM_sharesDown vM_onUp vM_onDown vM_great vM_triedOff vM_triedLeaked vM_triedKept vM_fitting vM_firstSet vM_inAll vM_inAny vM_at vM_sort vM_from vM_value vM_fault cM_d) rfl rfl rfl rfl rfl (by decide +kernel) rfl rfl (Nat.le_of_ble_eq_true rfl) ⟨Nat.zero_le _, Nat.zero_le _⟩ dX8_edgesBelow_30 (fun H locs hP hD hS => ?_)
          refine lv_goto (tgt := 37) hx hb dX8_edgesBelow_33 (by decide) ?_
          refine lv_iadd hx hb dX8_edgesBelow_37 ?_
          refine lv_topi (fun z7 ez7 => ?_)
          have h := nm_at ez7 h
          refine lv_istore_n (lv' := [(2, .int z7), (3, .int y3), (0, .ref aM), (1, .int x1)]) hx hb dX8_edgesBelow_38 rfl hl (by decide) rfl (fun ls hl => ?_)
          refine lv_iinc (v := y3 + 1) (lv' := [(3, .int (y3 + 1)), (2, .int z7), (0, .ref aM), (1, .int x1)]) hx hb dX8_edgesBelow_39 hl (k := 1) rfl rfl (by decide) rfl (fun ls hl => ?_)
          refine lv_goto (tgt := 6) hx hb dX8_edgesBelow_42 (by decide) ?_
          exact ih6 z7 (y3 + 1) _ _ _ hP hD hS (lv_sub hl [1, 0, 2, 3] rfl) h
  exact lp6 FU (0 : Int32) z1 _ _ _ hP hD hS (lv_sub hl [1, 0, 2, 3] rfl) h
/-! ===== X8_look ===== -/
def w_X8_look (cyI cyJ cyZ cyB cyO : ClassId) (aM aM_d aM_came aM_got aM_held aM_off aM_e aM_f aM_kept aM_found aM_tape aM_comesUp aM_comesDown aM_path aM_gets aM_gotNow aM_bitsOf aM_sizeOf aM_number aM_passing : Nat) (vM_isKept : Int32) (vM_taped : Int32) (vM_leaked : Int32) (vM_keptAll : Int32) (vM_offAll : Int32) (vM_up : Int64) (vM_down : Int64) (vM_sharesUp : Int64) (vM_sharesDown : Int64) (vM_onUp : Int64) (vM_onDown : Int64) (vM_great : Int32) (vM_triedOff : Int32) (vM_triedLeaked : Int32) (vM_triedKept : Int32) (vM_fitting : Int32) (vM_firstSet : Int32) (vM_inAll : Int32) (vM_inAny : Int32) (vM_at : Int32) (vM_sort : Int32) (vM_from : Int32) (vM_value : Int64) (vM_fault : Int32) (cM_d : Nat → Int32) (cM_came : Nat → Int32) (cM_got : Nat → Int32) (cM_held : Nat → Int32) (cM_off : Nat → Int32) : va_W := [(aM, .inr (7, [.ref aM_d, .ref aM_e, .ref aM_f, .ref aM_kept, .int vM_isKept, .ref aM_found, .ref aM_tape, .int vM_taped, .ref aM_came, .ref aM_got, .ref aM_held, .ref aM_off, .int vM_leaked, .int vM_keptAll, .int vM_offAll, .ref aM_comesUp, .ref aM_comesDown, .long vM_up, .long vM_down, .long vM_sharesUp, .long vM_sharesDown, .long vM_onUp, .long vM_onDown, .int vM_great, .ref aM_path, .ref aM_gets, .int vM_triedOff, .int vM_triedLeaked, .int vM_triedKept, .ref aM_gotNow, .int vM_fitting, .int vM_firstSet, .int vM_inAll, .int vM_inAny, .int vM_at, .int vM_sort, .int vM_from, .long vM_value, .int vM_fault, .ref aM_bitsOf, .ref aM_sizeOf, .ref aM_number, .ref aM_passing])), (aM_d, .inl (cyI, 64, .inl cM_d)), (aM_came, .inl (cyI, 10, .inl cM_came)), (aM_got, .inl (cyI, 10, .inl cM_got)), (aM_held, .inl (cyI, 10, .inl cM_held)), (aM_off, .inl (cyI, 10, .inl cM_off))]
set_option maxHeartbeats 4000000 in
set_option maxRecDepth 100000 in
theorem t_X8_look (l : Launch) (D : va_G) (cyI cyJ cyZ cyB cyO : ClassId) (aM aM_d aM_came aM_got aM_held aM_off aM_e aM_f aM_kept aM_found aM_tape aM_comesUp aM_comesDown aM_path aM_gets aM_gotNow aM_bitsOf aM_sizeOf aM_number aM_passing : Nat) (vM_isKept : Int32) (vM_taped : Int32) (vM_leaked : Int32) (vM_keptAll : Int32) (vM_offAll : Int32) (vM_up : Int64) (vM_down : Int64) (vM_sharesUp : Int64) (vM_sharesDown : Int64) (vM_onUp : Int64) (vM_onDown : Int64) (vM_great : Int32) (vM_triedOff : Int32) (vM_triedLeaked : Int32) (vM_triedKept : Int32) (vM_fitting : Int32) (vM_firstSet : Int32) (vM_inAll : Int32) (vM_inAny : Int32) (vM_at : Int32) (vM_sort : Int32) (vM_from : Int32) (vM_value : Int64) (vM_fault : Int32) (cM_d : Nat → Int32) (cM_came : Nat → Int32) (cM_got : Nat → Int32) (cM_held : Nat → Int32) (cM_off : Nat → Int32) (out : Int32 × Int32 × Int32 × (Nat → Int32) × (Nat → Int32) × (Nat → Int32) × (Nat → Int32)) (h : f_X8_look vM_leaked vM_keptAll vM_offAll cM_d cM_came cM_got cM_held cM_off = some out) : Mv l yX8_look wsX8_look ({ frames := 2, cells := 0, slots := 0, locals := 45 } : Room) D (tyA cyI cyJ cyZ cyB cyO) [.ref aM] (w_X8_look cyI cyJ cyZ cyB cyO aM aM_d aM_came aM_got aM_held aM_off aM_e aM_f aM_kept aM_found aM_tape aM_comesUp aM_comesDown aM_path aM_gets aM_gotNow aM_bitsOf aM_sizeOf aM_number aM_passing vM_isKept vM_taped vM_leaked vM_keptAll vM_offAll vM_up vM_down vM_sharesUp vM_sharesDown vM_onUp vM_onDown vM_great vM_triedOff vM_triedLeaked vM_triedKept vM_fitting vM_firstSet vM_inAll vM_inAny vM_at vM_sort vM_from vM_value vM_fault cM_d cM_came cM_got cM_held cM_off) (w_X8_look cyI cyJ cyZ cyB cyO aM aM_d aM_came aM_got aM_held aM_off aM_e aM_f aM_kept aM_found aM_tape aM_comesUp aM_comesDown aM_path aM_gets aM_gotNow aM_bitsOf aM_sizeOf aM_number aM_passing vM_isKept vM_taped out.1 out.2.1 out.2.2.1 vM_up vM_down vM_sharesUp vM_sharesDown vM_onUp vM_onDown vM_great vM_triedOff vM_triedLeaked vM_triedKept vM_fitting vM_firstSet vM_inAll vM_inAny vM_at vM_sort vM_from vM_value vM_fault cM_d out.2.2.2.1 out.2.2.2.2.1 out.2.2.2.2.2.1 out.2.2.2.2.2.2) := by
  refine Mv.mk (cc := cX8_look) (maxL := 10) (own := RX8) (by decide) rfl rfl (Nat.le_of_ble_eq_true rfl) ?_
  intro p e s m args below meth c A Q F hK hP hD hA hret ls hl
  obtain ⟨hx, hb, hml, hown, hts⟩ := id F
  have hS : va_S A s.heap s.heap [] := va_S.rf
  have hl : lv_has ls 10 [(0, .ref aM)] := hl
  have in_X8 : ∀ w ∈ wsX80, w ∈ wsX8_look := by decide +kernel
  have q1 := hts (Cond.fieldLink RX8 78 "ThirdFountainModel" "leaked" "I") (List.mem_of_getElem? (i := 1) rfl)
  have q2 := hts (Cond.fieldLink RX8 82 "ThirdFountainModel" "keptAll" "I") (List.mem_of_getElem? (i := 2) rfl)
  have q3 := hts (Cond.fieldLink RX8 85 "ThirdFountainModel" "offAll" "I") (List.mem_of_getElem? (i := 3) rfl)
  have q5 := hts (Cond.fieldLink RX8 7 "ThirdFountainModel" "d" "[I") (List.mem_of_getElem? (i := 5) rfl)
  have q9 := hts (Cond.methodLink RX8 74 yX8_its) (List.mem_of_getElem? (i := 9) rfl)
  have q4 := hts (Cond.fieldLink RX8 29 "ThirdFountainModel" "came" "[I") (List.mem_of_getElem? (i := 4) rfl)
  have q14 := hts (Cond.methodLink RX8 88 yX8_leaks) (List.mem_of_getElem? (i := 14) rfl)
  have q6 := hts (Cond.fieldLink RX8 32 "ThirdFountainModel" "got" "[I") (List.mem_of_getElem? (i := 6) rfl)
  have q17 := hts (Cond.methodLink RX8 91 yX8_keeps) (List.mem_of_getElem? (i := 17) rfl)
  have q7 := hts (Cond.fieldLink RX8 35 "ThirdFountainModel" "held" "[I") (List.mem_of_getElem? (i := 7) rfl)
  have q20 := hts (Cond.methodLink RX8 94 yX8_holds) (List.mem_of_getElem? (i := 20) rfl)
  have q23 := hts (Cond.methodLink RX8 98 yX8_edgesBelow) (List.mem_of_getElem? (i := 23) rfl)
  have q8 := hts (Cond.fieldLink RX8 38 "ThirdFountainModel" "off" "[I") (List.mem_of_getElem? (i := 8) rfl)
  unfold f_X8_look at h
  refine lv_aload_n hx hb dX8_look_0 rfl (lv_at hl 0 rfl) ?_
  refine lv_iconst (v := 0) hx hb dX8_look_1 (by decide) ?_
  refine va_put (D := D) (ci := 7) (v := .int (0 : Int32)) (ty := .int) (C := RX8) (T := TX8) (N := 43) hx hb hts in_X8 tyX8 tyX8_ok nmX8 hown hK hP hD hS 0 rfl rfl 12 (by decide) q1 (fun _ h9 => h9) rfl (by decide +kernel) rfl rfl (Nat.le_of_ble_eq_true rfl) dX8_look_2 (fun H locs hP hD hS => ?_)
  have hP : va_P D vwCl (w_X8_look cyI cyJ cyZ cyB cyO aM aM_d aM_came aM_got aM_held aM_off aM_e aM_f aM_kept aM_found aM_tape aM_comesUp aM_comesDown aM_path aM_gets aM_gotNow aM_bitsOf aM_sizeOf aM_number aM_passing vM_isKept vM_taped (0 : Int32) vM_keptAll vM_offAll vM_up vM_down vM_sharesUp vM_sharesDown vM_onUp vM_onDown vM_great vM_triedOff vM_triedLeaked vM_triedKept vM_fitting vM_firstSet vM_inAll vM_inAny vM_at vM_sort vM_from vM_value vM_fault cM_d cM_came cM_got cM_held cM_off) H := hP
  have hD : va_D A (w_X8_look cyI cyJ cyZ cyB cyO aM aM_d aM_came aM_got aM_held aM_off aM_e aM_f aM_kept aM_found aM_tape aM_comesUp aM_comesDown aM_path aM_gets aM_gotNow aM_bitsOf aM_sizeOf aM_number aM_passing vM_isKept vM_taped (0 : Int32) vM_keptAll vM_offAll vM_up vM_down vM_sharesUp vM_sharesDown vM_onUp vM_onDown vM_great vM_triedOff vM_triedLeaked vM_triedKept vM_fitting vM_firstSet vM_inAll vM_inAny vM_at vM_sort vM_from vM_value vM_fault cM_d cM_came cM_got cM_held cM_off) := hD
  refine lv_aload_n hx hb dX8_look_5 rfl (lv_at hl 0 rfl) ?_
  refine lv_iconst (v := 0) hx hb dX8_look_6 (by decide) ?_
  refine va_put (D := D) (ci := 7) (v := .int (0 : Int32)) (ty := .int) (C := RX8) (T := TX8) (N := 43) hx hb hts in_X8 tyX8 tyX8_ok nmX8 hown hK hP hD hS 0 rfl rfl 13 (by decide) q2 (fun _ h9 => h9) rfl (by decide +kernel) rfl rfl (Nat.le_of_ble_eq_true rfl) dX8_look_7 (fun H locs hP hD hS => ?_)
  have hP : va_P D vwCl (w_X8_look cyI cyJ cyZ cyB cyO aM aM_d aM_came aM_got aM_held aM_off aM_e aM_f aM_kept aM_found aM_tape aM_comesUp aM_comesDown aM_path aM_gets aM_gotNow aM_bitsOf aM_sizeOf aM_number aM_passing vM_isKept vM_taped (0 : Int32) (0 : Int32) vM_offAll vM_up vM_down vM_sharesUp vM_sharesDown vM_onUp vM_onDown vM_great vM_triedOff vM_triedLeaked vM_triedKept vM_fitting vM_firstSet vM_inAll vM_inAny vM_at vM_sort vM_from vM_value vM_fault cM_d cM_came cM_got cM_held cM_off) H := hP
  have hD : va_D A (w_X8_look cyI cyJ cyZ cyB cyO aM aM_d aM_came aM_got aM_held aM_off aM_e aM_f aM_kept aM_found aM_tape aM_comesUp aM_comesDown aM_path aM_gets aM_gotNow aM_bitsOf aM_sizeOf aM_number aM_passing vM_isKept vM_taped (0 : Int32) (0 : Int32) vM_offAll vM_up vM_down vM_sharesUp vM_sharesDown vM_onUp vM_onDown vM_great vM_triedOff vM_triedLeaked vM_triedKept vM_fitting vM_firstSet vM_inAll vM_inAny vM_at vM_sort vM_from vM_value vM_fault cM_d cM_came cM_got cM_held cM_off) := hD
  refine lv_aload_n hx hb dX8_look_10 rfl (lv_at hl 0 rfl) ?_
  refine lv_iconst (v := 0) hx hb dX8_look_11 (by decide) ?_
  refine va_put (D := D) (ci := 7) (v := .int (0 : Int32)) (ty := .int) (C := RX8) (T := TX8) (N := 43) hx hb hts in_X8 tyX8 tyX8_ok nmX8 hown hK hP hD hS 0 rfl rfl 14 (by decide) q3 (fun _ h9 => h9) rfl (by decide +kernel) rfl rfl (Nat.le_of_ble_eq_true rfl) dX8_look_12 (fun H locs hP hD hS => ?_)
  have hP : va_P D vwCl (w_X8_look cyI cyJ cyZ cyB cyO aM aM_d aM_came aM_got aM_held aM_off aM_e aM_f aM_kept aM_found aM_tape aM_comesUp aM_comesDown aM_path aM_gets aM_gotNow aM_bitsOf aM_sizeOf aM_number aM_passing vM_isKept vM_taped (0 : Int32) (0 : Int32) (0 : Int32) vM_up vM_down vM_sharesUp vM_sharesDown vM_onUp vM_onDown vM_great vM_triedOff vM_triedLeaked vM_triedKept vM_fitting vM_firstSet vM_inAll vM_inAny vM_at vM_sort vM_from vM_value vM_fault cM_d cM_came cM_got cM_held cM_off) H := hP
  have hD : va_D A (w_X8_look cyI cyJ cyZ cyB cyO aM aM_d aM_came aM_got aM_held aM_off aM_e aM_f aM_kept aM_found aM_tape aM_comesUp aM_comesDown aM_path aM_gets aM_gotNow aM_bitsOf aM_sizeOf aM_number aM_passing vM_isKept vM_taped (0 : Int32) (0 : Int32) (0 : Int32) vM_up vM_down vM_sharesUp vM_sharesDown vM_onUp vM_onDown vM_great vM_triedOff vM_triedLeaked vM_triedKept vM_fitting vM_firstSet vM_inAll vM_inAny vM_at vM_sort vM_from vM_value vM_fault cM_d cM_came cM_got cM_held cM_off) := hD
  refine lv_iconst (v := 0) hx hb dX8_look_15 (by decide) ?_
  refine lv_istore_n (lv' := [(1, .int (0 : Int32)), (0, .ref aM)]) hx hb dX8_look_16 rfl hl (by decide) rfl (fun ls hl => ?_)
  have lp17 : ∀ (k17 : Nat) (y1 : Int32) (vM_leaked : Int32) (vM_keptAll : Int32) (vM_offAll : Int32) (cM_came : Nat → Int32) (cM_got : Nat → Int32) (cM_held : Nat → Int32) (cM_off : Nat → Int32) (H : Heap) (locs : List Loc) (ls : Array Slot), va_P D vwCl (w_X8_look cyI cyJ cyZ cyB cyO aM aM_d aM_came aM_got aM_held aM_off aM_e aM_f aM_kept aM_found aM_tape aM_comesUp aM_comesDown aM_path aM_gets aM_gotNow aM_bitsOf aM_sizeOf aM_number aM_passing vM_isKept vM_taped vM_leaked vM_keptAll vM_offAll vM_up vM_down vM_sharesUp vM_sharesDown vM_onUp vM_onDown vM_great vM_triedOff vM_triedLeaked vM_triedKept vM_fitting vM_firstSet vM_inAll vM_inAny vM_at vM_sort vM_from vM_value vM_fault cM_d cM_came cM_got cM_held cM_off) H → va_D A (w_X8_look cyI cyJ cyZ cyB cyO aM aM_d aM_came aM_got aM_held aM_off aM_e aM_f aM_kept aM_found aM_tape aM_comesUp aM_comesDown aM_path aM_gets aM_gotNow aM_bitsOf aM_sizeOf aM_number aM_passing vM_isKept vM_taped vM_leaked vM_keptAll vM_offAll vM_up vM_down vM_sharesUp vM_sharesDown vM_onUp vM_onDown vM_great vM_triedOff vM_triedLeaked vM_triedKept vM_fitting vM_firstSet vM_inAll vM_inAny vM_at vM_sort vM_from vM_value vM_fault cM_d cM_came cM_got cM_held cM_off) → va_S A s.heap H locs → lv_has ls 10 [(1, .int y1), (0, .ref aM)] → (f_X8_look_L17 cM_d k17) (y1, vM_leaked, vM_keptAll, vM_offAll, cM_came, cM_got, cM_held, cM_off) = some out → W p l e ({ frames := 2, cells := 0, slots := 0, locals := 45 } : Room) s m args below meth c H locs 0 0 Q (F0 m 17 ls []) := by
    intro k17
    induction k17 with
    | zero => intro y1 vM_leaked vM_keptAll vM_offAll cM_came cM_got cM_held cM_off H locs ls hP hD hS hl h; cases h
    | succ k17 ih17 =>
      intro y1 vM_leaked vM_keptAll vM_offAll cM_came cM_got cM_held cM_off H locs ls hP hD hS hl h
      have h : f_X8_look_L17_b cM_d (f_X8_look_L17 cM_d k17) y1 vM_leaked vM_keptAll vM_offAll cM_came cM_got cM_held cM_off = some out := h
      unfold f_X8_look_L17_b at h
      refine lv_iload_n hx hb dX8_look_17 rfl (lv_at hl 0 rfl) ?_
      refine lv_bipush (v := 10) hx hb dX8_look_18 (by decide) ?_
      refine lv_icmp_ge (tgt := 49) hx hb dX8_look_20 (by decide) (fun c1 => ?_) (fun c1 => ?_)
      · have h := br_pos c1 h
        refine lv_iconst (v := 0) hx hb dX8_look_49 (by decide) ?_
        refine lv_istore_n (lv' := [(1, .int (0 : Int32)), (0, .ref aM)]) hx hb dX8_look_50 rfl hl (by decide) rfl (fun ls hl => ?_)
        have lp51 : ∀ (k51 : Nat) (y1 : Int32) (vM_leaked : Int32) (vM_keptAll : Int32) (vM_offAll : Int32) (cM_came : Nat → Int32) (cM_got : Nat → Int32) (cM_held : Nat → Int32) (cM_off : Nat → Int32) (H : Heap) (locs : List Loc) (ls : Array Slot), va_P D vwCl (w_X8_look cyI cyJ cyZ cyB cyO aM aM_d aM_came aM_got aM_held aM_off aM_e aM_f aM_kept aM_found aM_tape aM_comesUp aM_comesDown aM_path aM_gets aM_gotNow aM_bitsOf aM_sizeOf aM_number aM_passing vM_isKept vM_taped vM_leaked vM_keptAll vM_offAll vM_up vM_down vM_sharesUp vM_sharesDown vM_onUp vM_onDown vM_great vM_triedOff vM_triedLeaked vM_triedKept vM_fitting vM_firstSet vM_inAll vM_inAny vM_at vM_sort vM_from vM_value vM_fault cM_d cM_came cM_got cM_held cM_off) H → va_D A (w_X8_look cyI cyJ cyZ cyB cyO aM aM_d aM_came aM_got aM_held aM_off aM_e aM_f aM_kept aM_found aM_tape aM_comesUp aM_comesDown aM_path aM_gets aM_gotNow aM_bitsOf aM_sizeOf aM_number aM_passing vM_isKept vM_taped vM_leaked vM_keptAll vM_offAll vM_up vM_down vM_sharesUp vM_sharesDown vM_onUp vM_onDown vM_great vM_triedOff vM_triedLeaked vM_triedKept vM_fitting vM_firstSet vM_inAll vM_inAny vM_at vM_sort vM_from vM_value vM_fault cM_d cM_came cM_got cM_held cM_off) → va_S A s.heap H locs → lv_has ls 10 [(1, .int y1), (0, .ref aM)] → (f_X8_look_L51 cM_d k51) (y1, vM_leaked, vM_keptAll, vM_offAll, cM_came, cM_got, cM_held, cM_off) = some out → W p l e ({ frames := 2, cells := 0, slots := 0, locals := 45 } : Room) s m args below meth c H locs 0 0 Q (F0 m 51 ls []) := by
          intro k51
          induction k51 with
          | zero => intro y1 vM_leaked vM_keptAll vM_offAll cM_came cM_got cM_held cM_off H locs ls hP hD hS hl h; cases h
          | succ k51 ih51 =>
            intro y1 vM_leaked vM_keptAll vM_offAll cM_came cM_got cM_held cM_off H locs ls hP hD hS hl h
            have h : f_X8_look_L51_b cM_d (f_X8_look_L51 cM_d k51) y1 vM_leaked vM_keptAll vM_offAll cM_came cM_got cM_held cM_off = some out := h
            unfold f_X8_look_L51_b at h
            refine lv_iload_n hx hb dX8_look_51 rfl (lv_at hl 0 rfl) ?_
            refine lv_aload_n hx hb dX8_look_52 rfl (lv_at hl 1 rfl) ?_
            refine va_get (D := D) (ci := 7) (v := .ref aM_d) (C := RX8) (T := TX8) (N := 43) hx hb hts in_X8 hown hK hP 0 rfl rfl 0 (by decide) q5 (fun _ h9 => h9) rfl dX8_look_53 ?_
            refine lv_iconst (v := 0) hx hb dX8_look_56 (by decide) ?_
            refine va_iald hx hb hK hP 1 0 rfl rfl (by unfold vp_in; decide) dX8_look_57 ?_
            refine lv_icmp_ge (tgt := 269) hx hb dX8_look_58 (by decide) (fun c2 => ?_) (fun c2 => ?_)
            · have h := br_pos c2 h
              obtain rfl := Option.some.inj h
              exact hret _ _ _ _ hP hD hS dX8_look_269 
            · have h := br_neg c2 h
              refine lv_aload_n hx hb dX8_look_61 rfl (lv_at hl 1 rfl) ?_
              refine lv_iload_n hx hb dX8_look_62 rfl (lv_at hl 0 rfl) ?_
              refine lv_iconst (v := 0) hx hb dX8_look_63 (by decide) ?_
              obtain ⟨u3, hu3, h⟩ := bd_some h
              refine cl_Vi (rest := []) F hK hP hD hS hA hl (t_X8_its l D cyI cyJ cyZ cyB cyO aM aM_d aM_e aM_f aM_kept aM_found aM_tape aM_came aM_got aM_held aM_off aM_comesUp aM_comesDown aM_path aM_gets aM_gotNow aM_bitsOf aM_sizeOf aM_number aM_passing vM_isKept vM_taped vM_leaked vM_keptAll vM_offAll vM_up vM_down vM_sharesUp vM_sharesDown vM_onUp vM_onDown vM_great vM_triedOff vM_triedLeaked vM_triedKept vM_fitting vM_firstSet vM_inAll vM_inAny vM_at vM_sort vM_from vM_value vM_fault cM_d y1 (0 : Int32) u3 hu3) (cwV 2 hts gX8_look_X8_its rfl rfl rfl (by decide +kernel) ⟨Nat.le_of_ble_eq_true rfl, Nat.le_of_ble_eq_true rfl⟩) 0 [0, 1] [1, 2, 0, 0, 0, 0] [] (w_X8_look cyI cyJ cyZ cyB cyO aM aM_d aM_came aM_got aM_held aM_off aM_e aM_f aM_kept aM_found aM_tape aM_comesUp aM_comesDown aM_path aM_gets aM_gotNow aM_bitsOf aM_sizeOf aM_number aM_passing vM_isKept vM_taped vM_leaked vM_keptAll vM_offAll vM_up vM_down vM_sharesUp vM_sharesDown vM_onUp vM_onDown vM_great vM_triedOff vM_triedLeaked vM_triedKept vM_fitting vM_firstSet vM_inAll vM_inAny vM_at vM_sort vM_from vM_value vM_fault cM_d cM_came cM_got cM_held cM_off) rfl rfl rfl rfl rfl (by decide +kernel) rfl rfl (Nat.le_of_ble_eq_true rfl) ⟨Nat.zero_le _, Nat.zero_le _⟩ dX8_look_64 (fun H locs hP hD hS => ?_)
              refine lv_istore_n (lv' := [(2, .int u3), (1, .int y1), (0, .ref aM)]) hx hb dX8_look_67 rfl hl (by decide) rfl (fun ls hl => ?_)
              refine lv_aload_n hx hb dX8_look_68 rfl (lv_at hl 2 rfl) ?_
              refine va_get (D := D) (ci := 7) (v := .ref aM_came) (C := RX8) (T := TX8) (N := 43) hx hb hts in_X8 hown hK hP 0 rfl rfl 8 (by decide) q4 (fun _ h9 => h9) rfl dX8_look_69 ?_
              refine lv_iload_n hx hb dX8_look_72 rfl (lv_at hl 1 rfl) ?_
              obtain ⟨g4, h⟩ := gd_some h
              refine va_iald hx hb hK hP 2 0 rfl rfl g4 dX8_look_73 ?_
              refine lv_topi (fun z5 ez5 => ?_)
              have h := nm_at ez5 h
              refine lv_istore_n (lv' := [(3, .int z5), (2, .int u3), (1, .int y1), (0, .ref aM)]) hx hb dX8_look_74 rfl hl (by decide) rfl (fun ls hl => ?_)
              refine lv_iload_n hx hb dX8_look_75 rfl (lv_at hl 1 rfl) ?_
              refine lv_iload_n hx hb dX8_look_76 rfl (lv_at hl 0 rfl) ?_
              obtain ⟨u6, hu6, h⟩ := bd_some h
              refine cl_Si (rest := []) F hK hP hD hS hA hl (t_X8_leaks l D cyI cyJ cyZ cyB cyO u3 z5 u6 hu6) (va_cwS 2 hts gX8_look_X8_leaks rfl rfl rfl (by decide +kernel) ⟨Nat.le_of_ble_eq_true rfl, Nat.le_of_ble_eq_true rfl⟩) [] [0, 0, 0, 0, 0, 0] [] (w_X8_look cyI cyJ cyZ cyB cyO aM aM_d aM_came aM_got aM_held aM_off aM_e aM_f aM_kept aM_found aM_tape aM_comesUp aM_comesDown aM_path aM_gets aM_gotNow aM_bitsOf aM_sizeOf aM_number aM_passing vM_isKept vM_taped vM_leaked vM_keptAll vM_offAll vM_up vM_down vM_sharesUp vM_sharesDown vM_onUp vM_onDown vM_great vM_triedOff vM_triedLeaked vM_triedKept vM_fitting vM_firstSet vM_inAll vM_inAny vM_at vM_sort vM_from vM_value vM_fault cM_d cM_came cM_got cM_held cM_off) rfl rfl rfl (by decide +kernel) rfl rfl (Nat.le_of_ble_eq_true rfl) ⟨Nat.zero_le _, Nat.zero_le _⟩ dX8_look_77 (fun H locs hP hD hS => ?_)
              refine lv_istore (lv' := [(4, .int u6), (3, .int z5), (2, .int u3), (1, .int y1), (0, .ref aM)]) hx hb dX8_look_80 hl (by decide) rfl (fun ls hl => ?_)
              refine lv_aload_n hx hb dX8_look_82 rfl (lv_at hl 4 rfl) ?_
              refine va_get (D := D) (ci := 7) (v := .ref aM_got) (C := RX8) (T := TX8) (N := 43) hx hb hts in_X8 hown hK hP 0 rfl rfl 9 (by decide) q6 (fun _ h9 => h9) rfl dX8_look_83 ?_
              refine lv_iload_n hx hb dX8_look_86 rfl (lv_at hl 3 rfl) ?_
              refine lv_iload_n hx hb dX8_look_87 rfl (lv_at hl 2 rfl) ?_
              refine lv_iload_n hx hb dX8_look_88 rfl (lv_at hl 1 rfl) ?_
              refine lv_iload hx hb dX8_look_89 (lv_at hl 0 rfl) ?_
              refine lv_isub hx hb dX8_look_91 ?_
              obtain ⟨u7, hu7, h⟩ := bd_some h
              refine cl_Si (rest := [.int y1, .ref aM_got]) F hK hP hD hS hA hl (t_X8_keeps l D cyI cyJ cyZ cyB cyO u3 (z5 - u6) u7 hu7) (va_cwS 2 hts gX8_look_X8_keeps rfl rfl rfl (by decide +kernel) ⟨Nat.le_of_ble_eq_true rfl, Nat.le_of_ble_eq_true rfl⟩) [] [0, 0, 0, 0, 0, 0] [] (w_X8_look cyI cyJ cyZ cyB cyO aM aM_d aM_came aM_got aM_held aM_off aM_e aM_f aM_kept aM_found aM_tape aM_comesUp aM_comesDown aM_path aM_gets aM_gotNow aM_bitsOf aM_sizeOf aM_number aM_passing vM_isKept vM_taped vM_leaked vM_keptAll vM_offAll vM_up vM_down vM_sharesUp vM_sharesDown vM_onUp vM_onDown vM_great vM_triedOff vM_triedLeaked vM_triedKept vM_fitting vM_firstSet vM_inAll vM_inAny vM_at vM_sort vM_from vM_value vM_fault cM_d cM_came cM_got cM_held cM_off) rfl rfl rfl (by decide +kernel) rfl rfl (Nat.le_of_ble_eq_true rfl) ⟨Nat.zero_le _, Nat.zero_le _⟩ dX8_look_92 (fun H locs hP hD hS => ?_)
              obtain ⟨g8, h⟩ := gd_some h
              refine va_iast hx hb hK hP hD hS 3 0 rfl rfl g8 dX8_look_95 (fun H locs hP hD hS => ?_)
              have hP : va_P D vwCl (w_X8_look cyI cyJ cyZ cyB cyO aM aM_d aM_came aM_got aM_held aM_off aM_e aM_f aM_kept aM_found aM_tape aM_comesUp aM_comesDown aM_path aM_gets aM_gotNow aM_bitsOf aM_sizeOf aM_number aM_passing vM_isKept vM_taped vM_leaked vM_keptAll vM_offAll vM_up vM_down vM_sharesUp vM_sharesDown vM_onUp vM_onDown vM_great vM_triedOff vM_triedLeaked vM_triedKept vM_fitting vM_firstSet vM_inAll vM_inAny vM_at vM_sort vM_from vM_value vM_fault cM_d cM_came (upd cM_got y1.toNatClampNeg u7) cM_held cM_off) H := hP
              have hD : va_D A (w_X8_look cyI cyJ cyZ cyB cyO aM aM_d aM_came aM_got aM_held aM_off aM_e aM_f aM_kept aM_found aM_tape aM_comesUp aM_comesDown aM_path aM_gets aM_gotNow aM_bitsOf aM_sizeOf aM_number aM_passing vM_isKept vM_taped vM_leaked vM_keptAll vM_offAll vM_up vM_down vM_sharesUp vM_sharesDown vM_onUp vM_onDown vM_great vM_triedOff vM_triedLeaked vM_triedKept vM_fitting vM_firstSet vM_inAll vM_inAny vM_at vM_sort vM_from vM_value vM_fault cM_d cM_came (upd cM_got y1.toNatClampNeg u7) cM_held cM_off) := hD
              refine lv_iload_n hx hb dX8_look_96 rfl (lv_at hl 1 rfl) ?_
              refine lv_iload hx hb dX8_look_97 (lv_at hl 0 rfl) ?_
              refine lv_isub hx hb dX8_look_99 ?_
              refine lv_aload_n hx hb dX8_look_100 rfl (lv_at hl 4 rfl) ?_
              refine va_get (D := D) (ci := 7) (v := .ref aM_got) (C := RX8) (T := TX8) (N := 43) hx hb hts in_X8 hown hK hP 0 rfl rfl 9 (by decide) q6 (fun _ h9 => h9) rfl dX8_look_101 ?_
              refine lv_iload_n hx hb dX8_look_104 rfl (lv_at hl 3 rfl) ?_
              obtain ⟨g9, h⟩ := gd_some h
              refine va_iald hx hb hK hP 3 0 rfl rfl g9 dX8_look_105 ?_
              refine lv_isub hx hb dX8_look_106 ?_
              refine lv_topi (fun z10 ez10 => ?_)
              have h := nm_at ez10 h
              refine lv_istore (lv' := [(5, .int z10), (4, .int u6), (3, .int z5), (2, .int u3), (1, .int y1), (0, .ref aM)]) hx hb dX8_look_107 hl (by decide) rfl (fun ls hl => ?_)
              refine lv_aload_n hx hb dX8_look_109 rfl (lv_at hl 5 rfl) ?_
              refine va_get (D := D) (ci := 7) (v := .ref aM_held) (C := RX8) (T := TX8) (N := 43) hx hb hts in_X8 hown hK hP 0 rfl rfl 10 (by decide) q7 (fun _ h9 => h9) rfl dX8_look_110 ?_
              refine lv_iload_n hx hb dX8_look_113 rfl (lv_at hl 4 rfl) ?_
              refine lv_iload_n hx hb dX8_look_114 rfl (lv_at hl 3 rfl) ?_
              refine lv_iload hx hb dX8_look_115 (lv_at hl 0 rfl) ?_
              refine lv_aload_n hx hb dX8_look_117 rfl (lv_at hl 5 rfl) ?_
              refine lv_iload_n hx hb dX8_look_118 rfl (lv_at hl 4 rfl) ?_
              refine lv_iconst (v := 3) hx hb dX8_look_119 (by decide) ?_
              obtain ⟨u11, hu11, h⟩ := bd_some h
              refine cl_Vi (rest := [.int z10, .int u3, .int y1, .ref aM_held]) F hK hP hD hS hA hl (t_X8_its l D cyI cyJ cyZ cyB cyO aM aM_d aM_e aM_f aM_kept aM_found aM_tape aM_came aM_got aM_held aM_off aM_comesUp aM_comesDown aM_path aM_gets aM_gotNow aM_bitsOf aM_sizeOf aM_number aM_passing vM_isKept vM_taped vM_leaked vM_keptAll vM_offAll vM_up vM_down vM_sharesUp vM_sharesDown vM_onUp vM_onDown vM_great vM_triedOff vM_triedLeaked vM_triedKept vM_fitting vM_firstSet vM_inAll vM_inAny vM_at vM_sort vM_from vM_value vM_fault cM_d y1 (3 : Int32) u11 hu11) (cwV 2 hts gX8_look_X8_its rfl rfl rfl (by decide +kernel) ⟨Nat.le_of_ble_eq_true rfl, Nat.le_of_ble_eq_true rfl⟩) 0 [0, 1] [1, 2, 0, 0, 0, 0] [] (w_X8_look cyI cyJ cyZ cyB cyO aM aM_d aM_came aM_got aM_held aM_off aM_e aM_f aM_kept aM_found aM_tape aM_comesUp aM_comesDown aM_path aM_gets aM_gotNow aM_bitsOf aM_sizeOf aM_number aM_passing vM_isKept vM_taped vM_leaked vM_keptAll vM_offAll vM_up vM_down vM_sharesUp vM_sharesDown vM_onUp vM_onDown vM_great vM_triedOff vM_triedLeaked vM_triedKept vM_fitting vM_firstSet vM_inAll vM_inAny vM_at vM_sort vM_from vM_value vM_fault cM_d cM_came (upd cM_got y1.toNatClampNeg u7) cM_held cM_off) rfl rfl rfl rfl rfl (by decide +kernel) rfl rfl (Nat.le_of_ble_eq_true rfl) ⟨Nat.zero_le _, Nat.zero_le _⟩ dX8_look_120 (fun H locs hP hD hS => ?_)
              obtain ⟨u12, hu12, h⟩ := bd_some h
              refine cl_Si (rest := [.int y1, .ref aM_held]) F hK hP hD hS hA hl (t_X8_holds l D cyI cyJ cyZ cyB cyO u3 z10 u11 u12 hu12) (va_cwS 3 hts gX8_look_X8_holds rfl rfl rfl (by decide +kernel) ⟨Nat.le_of_ble_eq_true rfl, Nat.le_of_ble_eq_true rfl⟩) [] [0, 0, 0, 0, 0, 0] [] (w_X8_look cyI cyJ cyZ cyB cyO aM aM_d aM_came aM_got aM_held aM_off aM_e aM_f aM_kept aM_found aM_tape aM_comesUp aM_comesDown aM_path aM_gets aM_gotNow aM_bitsOf aM_sizeOf aM_number aM_passing vM_isKept vM_taped vM_leaked vM_keptAll vM_offAll vM_up vM_down vM_sharesUp vM_sharesDown vM_onUp vM_onDown vM_great vM_triedOff vM_triedLeaked vM_triedKept vM_fitting vM_firstSet vM_inAll vM_inAny vM_at vM_sort vM_from vM_value vM_fault cM_d cM_came (upd cM_got y1.toNatClampNeg u7) cM_held cM_off) rfl rfl rfl (by decide +kernel) rfl rfl (Nat.le_of_ble_eq_true rfl) ⟨Nat.zero_le _, Nat.zero_le _⟩ dX8_look_123 (fun H locs hP hD hS => ?_)
              obtain ⟨g13, h⟩ := gd_some h
              refine va_iast hx hb hK hP hD hS 4 0 rfl rfl g13 dX8_look_126 (fun H locs hP hD hS => ?_)
              have hP : va_P D vwCl (w_X8_look cyI cyJ cyZ cyB cyO aM aM_d aM_came aM_got aM_held aM_off aM_e aM_f aM_kept aM_found aM_tape aM_comesUp aM_comesDown aM_path aM_gets aM_gotNow aM_bitsOf aM_sizeOf aM_number aM_passing vM_isKept vM_taped vM_leaked vM_keptAll vM_offAll vM_up vM_down vM_sharesUp vM_sharesDown vM_onUp vM_onDown vM_great vM_triedOff vM_triedLeaked vM_triedKept vM_fitting vM_firstSet vM_inAll vM_inAny vM_at vM_sort vM_from vM_value vM_fault cM_d cM_came (upd cM_got y1.toNatClampNeg u7) (upd cM_held y1.toNatClampNeg u12) cM_off) H := hP
              have hD : va_D A (w_X8_look cyI cyJ cyZ cyB cyO aM aM_d aM_came aM_got aM_held aM_off aM_e aM_f aM_kept aM_found aM_tape aM_comesUp aM_comesDown aM_path aM_gets aM_gotNow aM_bitsOf aM_sizeOf aM_number aM_passing vM_isKept vM_taped vM_leaked vM_keptAll vM_offAll vM_up vM_down vM_sharesUp vM_sharesDown vM_onUp vM_onDown vM_great vM_triedOff vM_triedLeaked vM_triedKept vM_fitting vM_firstSet vM_inAll vM_inAny vM_at vM_sort vM_from vM_value vM_fault cM_d cM_came (upd cM_got y1.toNatClampNeg u7) (upd cM_held y1.toNatClampNeg u12) cM_off) := hD
              refine lv_iload hx hb dX8_look_127 (lv_at hl 0 rfl) ?_
              refine lv_aload_n hx hb dX8_look_129 rfl (lv_at hl 5 rfl) ?_
              refine va_get (D := D) (ci := 7) (v := .ref aM_held) (C := RX8) (T := TX8) (N := 43) hx hb hts in_X8 hown hK hP 0 rfl rfl 10 (by decide) q7 (fun _ h9 => h9) rfl dX8_look_130 ?_
              refine lv_iload_n hx hb dX8_look_133 rfl (lv_at hl 4 rfl) ?_
              obtain ⟨g14, h⟩ := gd_some h
              refine va_iald hx hb hK hP 4 0 rfl rfl g14 dX8_look_134 ?_
              refine lv_isub hx hb dX8_look_135 ?_
              refine lv_topi (fun z15 ez15 => ?_)
              have h := nm_at ez15 h
              refine lv_istore (lv' := [(6, .int z15), (5, .int z10), (4, .int u6), (3, .int z5), (2, .int u3), (1, .int y1), (0, .ref aM)]) hx hb dX8_look_136 hl (by decide) rfl (fun ls hl => ?_)
              refine lv_aload_n hx hb dX8_look_138 rfl (lv_at hl 6 rfl) ?_
              refine lv_iload_n hx hb dX8_look_139 rfl (lv_at hl 5 rfl) ?_
              obtain ⟨u16, hu16, h⟩ := bd_some h
              refine cl_Vi (rest := []) F hK hP hD hS hA hl (t_X8_edgesBelow l D cyI cyJ cyZ cyB cyO aM aM_d aM_e aM_f aM_kept aM_found aM_tape aM_came aM_got aM_held aM_off aM_comesUp aM_comesDown aM_path aM_gets aM_gotNow aM_bitsOf aM_sizeOf aM_number aM_passing vM_isKept vM_taped vM_leaked vM_keptAll vM_offAll vM_up vM_down vM_sharesUp vM_sharesDown vM_onUp vM_onDown vM_great vM_triedOff vM_triedLeaked vM_triedKept vM_fitting vM_firstSet vM_inAll vM_inAny vM_at vM_sort vM_from vM_value vM_fault cM_d y1 u16 hu16) (cwV 1 hts gX8_look_X8_edgesBelow rfl rfl rfl (by decide +kernel) ⟨Nat.le_of_ble_eq_true rfl, Nat.le_of_ble_eq_true rfl⟩) 0 [0, 1] [1, 2, 0, 0, 0, 0] [] (w_X8_look cyI cyJ cyZ cyB cyO aM aM_d aM_came aM_got aM_held aM_off aM_e aM_f aM_kept aM_found aM_tape aM_comesUp aM_comesDown aM_path aM_gets aM_gotNow aM_bitsOf aM_sizeOf aM_number aM_passing vM_isKept vM_taped vM_leaked vM_keptAll vM_offAll vM_up vM_down vM_sharesUp vM_sharesDown vM_onUp vM_onDown vM_great vM_triedOff vM_triedLeaked vM_triedKept vM_fitting vM_firstSet vM_inAll vM_inAny vM_at vM_sort vM_from vM_value vM_fault cM_d cM_came (upd cM_got y1.toNatClampNeg u7) (upd cM_held y1.toNatClampNeg u12) cM_off) rfl rfl rfl rfl rfl (by decide +kernel) rfl rfl (Nat.le_of_ble_eq_true rfl) ⟨Nat.zero_le _, Nat.zero_le _⟩ dX8_look_140 (fun H locs hP hD hS => ?_)
              refine lv_istore (lv' := [(7, .int u16), (6, .int z15), (5, .int z10), (4, .int u6), (3, .int z5), (2, .int u3), (1, .int y1), (0, .ref aM)]) hx hb dX8_look_143 hl (by decide) rfl (fun ls hl => ?_)
              refine lv_iload hx hb dX8_look_145 (lv_at hl 1 rfl) ?_
              refine lv_istore (lv' := [(8, .int z15), (7, .int u16), (6, .int z15), (5, .int z10), (4, .int u6), (3, .int z5), (2, .int u3), (1, .int y1), (0, .ref aM)]) hx hb dX8_look_147 hl (by decide) rfl (fun ls hl => ?_)
              refine lv_iload_n hx hb dX8_look_149 rfl (lv_at hl 7 rfl) ?_
              refine lv_iconst (v := 1) hx hb dX8_look_150 (by decide) ?_
              refine lv_iadd hx hb dX8_look_151 ?_
              refine lv_topi (fun z17 ez17 => ?_)
              have h := nm_at ez17 h
              refine lv_istore (lv' := [(9, .int z17), (8, .int z15), (7, .int u16), (6, .int z15), (5, .int z10), (4, .int u6), (3, .int z5), (2, .int u3), (1, .int y1), (0, .ref aM)]) hx hb dX8_look_152 hl (by decide) rfl (fun ls hl => ?_)
              have lp154 : ∀ (k154 : Nat) (y1 : Int32) (y4 : Int32) (y6 : Int32) (y7 : Int32) (y8 : Int32) (y9 : Int32) (vM_leaked : Int32) (vM_keptAll : Int32) (vM_offAll : Int32) (cM_came : Nat → Int32) (cM_got : Nat → Int32) (cM_held : Nat → Int32) (cM_off : Nat → Int32) (H : Heap) (locs : List Loc) (ls : Array Slot), va_P D vwCl (w_X8_look cyI cyJ cyZ cyB cyO aM aM_d aM_came aM_got aM_held aM_off aM_e aM_f aM_kept aM_found aM_tape aM_comesUp aM_comesDown aM_path aM_gets aM_gotNow aM_bitsOf aM_sizeOf aM_number aM_passing vM_isKept vM_taped vM_leaked vM_keptAll vM_offAll vM_up vM_down vM_sharesUp vM_sharesDown vM_onUp vM_onDown vM_great vM_triedOff vM_triedLeaked vM_triedKept vM_fitting vM_firstSet vM_inAll vM_inAny vM_at vM_sort vM_from vM_value vM_fault cM_d cM_came cM_got cM_held cM_off) H → va_D A (w_X8_look cyI cyJ cyZ cyB cyO aM aM_d aM_came aM_got aM_held aM_off aM_e aM_f aM_kept aM_found aM_tape aM_comesUp aM_comesDown aM_path aM_gets aM_gotNow aM_bitsOf aM_sizeOf aM_number aM_passing vM_isKept vM_taped vM_leaked vM_keptAll vM_offAll vM_up vM_down vM_sharesUp vM_sharesDown vM_onUp vM_onDown vM_great vM_triedOff vM_triedLeaked vM_triedKept vM_fitting vM_firstSet vM_inAll vM_inAny vM_at vM_sort vM_from vM_value vM_fault cM_d cM_came cM_got cM_held cM_off) → va_S A s.heap H locs → lv_has ls 10 [(1, .int y1), (4, .int y4), (6, .int y6), (7, .int y7), (8, .int y8), (9, .int y9), (0, .ref aM)] → (f_X8_look_L154 cM_d (f_X8_look_L51 cM_d k51) k154) (y1, y4, y6, y7, y8, y9, vM_leaked, vM_keptAll, vM_offAll, cM_came, cM_got, cM_held, cM_off) = some out → W p l e ({ frames := 2, cells := 0, slots := 0, locals := 45 } : Room) s m args below meth c H locs 0 0 Q (F0 m 154 ls []) := by
                intro k154
                induction k154 with
                | zero => intro y1 y4 y6 y7 y8 y9 vM_leaked vM_keptAll vM_offAll cM_came cM_got cM_held cM_off H locs ls hP hD hS hl h; cases h
                | succ k154 ih154 =>
                  intro y1 y4 y6 y7 y8 y9 vM_leaked vM_keptAll vM_offAll cM_came cM_got cM_held cM_off H locs ls hP hD hS hl h
                  have h : f_X8_look_L154_b cM_d (f_X8_look_L51 cM_d k51) (f_X8_look_L154 cM_d (f_X8_look_L51 cM_d k51) k154) y1 y4 y6 y7 y8 y9 vM_leaked vM_keptAll vM_offAll cM_came cM_got cM_held cM_off = some out := h
                  unfold f_X8_look_L154_b at h
                  refine lv_iload hx hb dX8_look_154 (lv_at hl 5 rfl) ?_
                  refine lv_aload_n hx hb dX8_look_156 rfl (lv_at hl 6 rfl) ?_
                  refine va_get (D := D) (ci := 7) (v := .ref aM_d) (C := RX8) (T := TX8) (N := 43) hx hb hts in_X8 hown hK hP 0 rfl rfl 0 (by decide) q5 (fun _ h9 => h9) rfl dX8_look_157 ?_
                  refine lv_iconst (v := 0) hx hb dX8_look_160 (by decide) ?_
                  refine va_iald hx hb hK hP 1 0 rfl rfl (by unfold vp_in; decide) dX8_look_161 ?_
                  have j218 : ∀ (y1 : Int32) (y4 : Int32) (y8 : Int32) (vM_leaked : Int32) (vM_keptAll : Int32) (vM_offAll : Int32) (cM_came : Nat → Int32) (cM_got : Nat → Int32) (cM_held : Nat → Int32) (cM_off : Nat → Int32) (H : Heap) (locs : List Loc) (ls : Array Slot), va_P D vwCl (w_X8_look cyI cyJ cyZ cyB cyO aM aM_d aM_came aM_got aM_held aM_off aM_e aM_f aM_kept aM_found aM_tape aM_comesUp aM_comesDown aM_path aM_gets aM_gotNow aM_bitsOf aM_sizeOf aM_number aM_passing vM_isKept vM_taped vM_leaked vM_keptAll vM_offAll vM_up vM_down vM_sharesUp vM_sharesDown vM_onUp vM_onDown vM_great vM_triedOff vM_triedLeaked vM_triedKept vM_fitting vM_firstSet vM_inAll vM_inAny vM_at vM_sort vM_from vM_value vM_fault cM_d cM_came cM_got cM_held cM_off) H → va_D A (w_X8_look cyI cyJ cyZ cyB cyO aM aM_d aM_came aM_got aM_held aM_off aM_e aM_f aM_kept aM_found aM_tape aM_comesUp aM_comesDown aM_path aM_gets aM_gotNow aM_bitsOf aM_sizeOf aM_number aM_passing vM_isKept vM_taped vM_leaked vM_keptAll vM_offAll vM_up vM_down vM_sharesUp vM_sharesDown vM_onUp vM_onDown vM_great vM_triedOff vM_triedLeaked vM_triedKept vM_fitting vM_firstSet vM_inAll vM_inAny vM_at vM_sort vM_from vM_value vM_fault cM_d cM_came cM_got cM_held cM_off) → va_S A s.heap H locs → lv_has ls 10 [(1, .int y1), (4, .int y4), (8, .int y8), (0, .ref aM)] → f_X8_look_J218 cM_d (f_X8_look_L51 cM_d k51) y1 y4 y8 vM_leaked vM_keptAll vM_offAll cM_came cM_got cM_held cM_off = some out → W p l e ({ frames := 2, cells := 0, slots := 0, locals := 45 } : Room) s m args below meth c H locs 0 0 Q (F0 m 218 ls []) := by
                    intro y1 y4 y8 vM_leaked vM_keptAll vM_offAll cM_came cM_got cM_held cM_off H locs ls hP hD hS hl h
                    unfold f_X8_look_J218 at h
                    refine lv_aload_n hx hb dX8_look_218 rfl (lv_at hl 3 rfl) ?_
                    refine va_get (D := D) (ci := 7) (v := .ref aM_off) (C := RX8) (T := TX8) (N := 43) hx hb hts in_X8 hown hK hP 0 rfl rfl 11 (by decide) q8 (fun _ h9 => h9) rfl dX8_look_219 ?_
                    refine lv_iload_n hx hb dX8_look_222 rfl (lv_at hl 0 rfl) ?_
                    refine lv_iload hx hb dX8_look_223 (lv_at hl 2 rfl) ?_
                    obtain ⟨g18, h⟩ := gd_some h
                    refine va_iast hx hb hK hP hD hS 5 0 rfl rfl g18 dX8_look_225 (fun H locs hP hD hS => ?_)
                    have hP : va_P D vwCl (w_X8_look cyI cyJ cyZ cyB cyO aM aM_d aM_came aM_got aM_held aM_off aM_e aM_f aM_kept aM_found aM_tape aM_comesUp aM_comesDown aM_path aM_gets aM_gotNow aM_bitsOf aM_sizeOf aM_number aM_passing vM_isKept vM_taped vM_leaked vM_keptAll vM_offAll vM_up vM_down vM_sharesUp vM_sharesDown vM_onUp vM_onDown vM_great vM_triedOff vM_triedLeaked vM_triedKept vM_fitting vM_firstSet vM_inAll vM_inAny vM_at vM_sort vM_from vM_value vM_fault cM_d cM_came cM_got cM_held (upd cM_off y1.toNatClampNeg y8)) H := hP
                    have hD : va_D A (w_X8_look cyI cyJ cyZ cyB cyO aM aM_d aM_came aM_got aM_held aM_off aM_e aM_f aM_kept aM_found aM_tape aM_comesUp aM_comesDown aM_path aM_gets aM_gotNow aM_bitsOf aM_sizeOf aM_number aM_passing vM_isKept vM_taped vM_leaked vM_keptAll vM_offAll vM_up vM_down vM_sharesUp vM_sharesDown vM_onUp vM_onDown vM_great vM_triedOff vM_triedLeaked vM_triedKept vM_fitting vM_firstSet vM_inAll vM_inAny vM_at vM_sort vM_from vM_value vM_fault cM_d cM_came cM_got cM_held (upd cM_off y1.toNatClampNeg y8)) := hD
                    refine lv_aload_n hx hb dX8_look_226 rfl (lv_at hl 3 rfl) ?_
                    refine lv_dup hx hb dX8_look_227 rfl ?_
                    refine va_get (D := D) (ci := 7) (v := .int vM_leaked) (C := RX8) (T := TX8) (N := 43) hx hb hts in_X8 hown hK hP 0 rfl rfl 12 (by decide) q1 (fun _ h9 => h9) rfl dX8_look_228 ?_
                    refine lv_iload hx hb dX8_look_231 (lv_at hl 1 rfl) ?_
                    refine lv_iadd hx hb dX8_look_233 ?_
                    refine va_put (D := D) (ci := 7) (v := .int (vM_leaked + y4)) (ty := .int) (C := RX8) (T := TX8) (N := 43) hx hb hts in_X8 tyX8 tyX8_ok nmX8 hown hK hP hD hS 0 rfl rfl 12 (by decide) q1 (fun _ h9 => h9) rfl (by decide +kernel) rfl rfl (Nat.le_of_ble_eq_true rfl) dX8_look_234 (fun H locs hP hD hS => ?_)
                    have hP : va_P D vwCl (w_X8_look cyI cyJ cyZ cyB cyO aM aM_d aM_came aM_got aM_held aM_off aM_e aM_f aM_kept aM_found aM_tape aM_comesUp aM_comesDown aM_path aM_gets aM_gotNow aM_bitsOf aM_sizeOf aM_number aM_passing vM_isKept vM_taped (vM_leaked + y4) vM_keptAll vM_offAll vM_up vM_down vM_sharesUp vM_sharesDown vM_onUp vM_onDown vM_great vM_triedOff vM_triedLeaked vM_triedKept vM_fitting vM_firstSet vM_inAll vM_inAny vM_at vM_sort vM_from vM_value vM_fault cM_d cM_came cM_got cM_held (upd cM_off y1.toNatClampNeg y8)) H := hP
                    have hD : va_D A (w_X8_look cyI cyJ cyZ cyB cyO aM aM_d aM_came aM_got aM_held aM_off aM_e aM_f aM_kept aM_found aM_tape aM_comesUp aM_comesDown aM_path aM_gets aM_gotNow aM_bitsOf aM_sizeOf aM_number aM_passing vM_isKept vM_taped (vM_leaked + y4) vM_keptAll vM_offAll vM_up vM_down vM_sharesUp vM_sharesDown vM_onUp vM_onDown vM_great vM_triedOff vM_triedLeaked vM_triedKept vM_fitting vM_firstSet vM_inAll vM_inAny vM_at vM_sort vM_from vM_value vM_fault cM_d cM_came cM_got cM_held (upd cM_off y1.toNatClampNeg y8)) := hD
                    refine lv_aload_n hx hb dX8_look_237 rfl (lv_at hl 3 rfl) ?_
                    refine lv_dup hx hb dX8_look_238 rfl ?_
                    refine va_get (D := D) (ci := 7) (v := .int vM_keptAll) (C := RX8) (T := TX8) (N := 43) hx hb hts in_X8 hown hK hP 0 rfl rfl 13 (by decide) q2 (fun _ h9 => h9) rfl dX8_look_239 ?_
                    refine lv_aload_n hx hb dX8_look_242 rfl (lv_at hl 3 rfl) ?_
                    refine va_get (D := D) (ci := 7) (v := .ref aM_got) (C := RX8) (T := TX8) (N := 43) hx hb hts in_X8 hown hK hP 0 rfl rfl 9 (by decide) q6 (fun _ h9 => h9) rfl dX8_look_243 ?_
                    refine lv_iload_n hx hb dX8_look_246 rfl (lv_at hl 0 rfl) ?_
                    obtain ⟨g19, h⟩ := gd_some h
                    refine va_iald hx hb hK hP 3 0 rfl rfl g19 dX8_look_247 ?_
                    refine lv_iadd hx hb dX8_look_248 ?_
                    refine va_put (D := D) (ci := 7) (v := .int (vM_keptAll + (cM_got y1.toNatClampNeg))) (ty := .int) (C := RX8) (T := TX8) (N := 43) hx hb hts in_X8 tyX8 tyX8_ok nmX8 hown hK hP hD hS 0 rfl rfl 13 (by decide) q2 (fun _ h9 => h9) rfl (by decide +kernel) rfl rfl (Nat.le_of_ble_eq_true rfl) dX8_look_249 (fun H locs hP hD hS => ?_)
                    have hP : va_P D vwCl (w_X8_look cyI cyJ cyZ cyB cyO aM aM_d aM_came aM_got aM_held aM_off aM_e aM_f aM_kept aM_found aM_tape aM_comesUp aM_comesDown aM_path aM_gets aM_gotNow aM_bitsOf aM_sizeOf aM_number aM_passing vM_isKept vM_taped (vM_leaked + y4) (vM_keptAll + (cM_got y1.toNatClampNeg)) vM_offAll vM_up vM_down vM_sharesUp vM_sharesDown vM_onUp vM_onDown vM_great vM_triedOff vM_triedLeaked vM_triedKept vM_fitting vM_firstSet vM_inAll vM_inAny vM_at vM_sort vM_from vM_value vM_fault cM_d cM_came cM_got cM_held (upd cM_off y1.toNatClampNeg y8)) H := hP
                    have hD : va_D A (w_X8_look cyI cyJ cyZ cyB cyO aM aM_d aM_came aM_got aM_held aM_off aM_e aM_f aM_kept aM_found aM_tape aM_comesUp aM_comesDown aM_path aM_gets aM_gotNow aM_bitsOf aM_sizeOf aM_number aM_passing vM_isKept vM_taped (vM_leaked + y4) (vM_keptAll + (cM_got y1.toNatClampNeg)) vM_offAll vM_up vM_down vM_sharesUp vM_sharesDown vM_onUp vM_onDown vM_great vM_triedOff vM_triedLeaked vM_triedKept vM_fitting vM_firstSet vM_inAll vM_inAny vM_at vM_sort vM_from vM_value vM_fault cM_d cM_came cM_got cM_held (upd cM_off y1.toNatClampNeg y8)) := hD
                    refine lv_aload_n hx hb dX8_look_252 rfl (lv_at hl 3 rfl) ?_
                    refine lv_dup hx hb dX8_look_253 rfl ?_
                    refine va_get (D := D) (ci := 7) (v := .int vM_offAll) (C := RX8) (T := TX8) (N := 43) hx hb hts in_X8 hown hK hP 0 rfl rfl 14 (by decide) q3 (fun _ h9 => h9) rfl dX8_look_254 ?_
                    refine lv_iload hx hb dX8_look_257 (lv_at hl 2 rfl) ?_
                    refine lv_iadd hx hb dX8_look_259 ?_
                    refine va_put (D := D) (ci := 7) (v := .int (vM_offAll + y8)) (ty := .int) (C := RX8) (T := TX8) (N := 43) hx hb hts in_X8 tyX8 tyX8_ok nmX8 hown hK hP hD hS 0 rfl rfl 14 (by decide) q3 (fun _ h9 => h9) rfl (by decide +kernel) rfl rfl (Nat.le_of_ble_eq_true rfl) dX8_look_260 (fun H locs hP hD hS => ?_)
                    have hP : va_P D vwCl (w_X8_look cyI cyJ cyZ cyB cyO aM aM_d aM_came aM_got aM_held aM_off aM_e aM_f aM_kept aM_found aM_tape aM_comesUp aM_comesDown aM_path aM_gets aM_gotNow aM_bitsOf aM_sizeOf aM_number aM_passing vM_isKept vM_taped (vM_leaked + y4) (vM_keptAll + (cM_got y1.toNatClampNeg)) (vM_offAll + y8) vM_up vM_down vM_sharesUp vM_sharesDown vM_onUp vM_onDown vM_great vM_triedOff vM_triedLeaked vM_triedKept vM_fitting vM_firstSet vM_inAll vM_inAny vM_at vM_sort vM_from vM_value vM_fault cM_d cM_came cM_got cM_held (upd cM_off y1.toNatClampNeg y8)) H := hP
                    have hD : va_D A (w_X8_look cyI cyJ cyZ cyB cyO aM aM_d aM_came aM_got aM_held aM_off aM_e aM_f aM_kept aM_found aM_tape aM_comesUp aM_comesDown aM_path aM_gets aM_gotNow aM_bitsOf aM_sizeOf aM_number aM_passing vM_isKept vM_taped (vM_leaked + y4) (vM_keptAll + (cM_got y1.toNatClampNeg)) (vM_offAll + y8) vM_up vM_down vM_sharesUp vM_sharesDown vM_onUp vM_onDown vM_great vM_triedOff vM_triedLeaked vM_triedKept vM_fitting vM_firstSet vM_inAll vM_inAny vM_at vM_sort vM_from vM_value vM_fault cM_d cM_came cM_got cM_held (upd cM_off y1.toNatClampNeg y8)) := hD
                    refine lv_iinc (v := y1 + 1) (lv' := [(1, .int (y1 + 1)), (4, .int y4), (8, .int y8), (0, .ref aM)]) hx hb dX8_look_263 hl (k := 0) rfl rfl (by decide) rfl (fun ls hl => ?_)
                    refine lv_goto (tgt := 51) hx hb dX8_look_266 (by decide) ?_
                    exact ih51 (y1 + 1) (vM_leaked + y4) (vM_keptAll + (cM_got y1.toNatClampNeg)) (vM_offAll + y8) cM_came cM_got cM_held (upd cM_off y1.toNatClampNeg y8) _ _ _ hP hD hS (lv_sub hl [0, 3] rfl) h
                  refine lv_icmp_ge (tgt := 218) hx hb dX8_look_162 (by decide) (fun c20 => ?_) (fun c20 => ?_)
                  · have h := br_pos c20 h
                    exact j218 y1 y4 y8 vM_leaked vM_keptAll vM_offAll cM_came cM_got cM_held cM_off _ _ _ hP hD hS (lv_sub hl [0, 1, 4, 6] rfl) h
                  · have h := br_neg c20 h
                    refine lv_aload_n hx hb dX8_look_165 rfl (lv_at hl 6 rfl) ?_
                    refine lv_iload hx hb dX8_look_166 (lv_at hl 5 rfl) ?_
                    refine lv_iconst (v := 1) hx hb dX8_look_168 (by decide) ?_
                    obtain ⟨u21, hu21, h⟩ := bd_some h
                    refine cl_Vi (rest := []) F hK hP hD hS hA hl (t_X8_its l D cyI cyJ cyZ cyB cyO aM aM_d aM_e aM_f aM_kept aM_found aM_tape aM_came aM_got aM_held aM_off aM_comesUp aM_comesDown aM_path aM_gets aM_gotNow aM_bitsOf aM_sizeOf aM_number aM_passing vM_isKept vM_taped vM_leaked vM_keptAll vM_offAll vM_up vM_down vM_sharesUp vM_sharesDown vM_onUp vM_onDown vM_great vM_triedOff vM_triedLeaked vM_triedKept vM_fitting vM_firstSet vM_inAll vM_inAny vM_at vM_sort vM_from vM_value vM_fault cM_d y9 (1 : Int32) u21 hu21) (cwV 2 hts gX8_look_X8_its rfl rfl rfl (by decide +kernel) ⟨Nat.le_of_ble_eq_true rfl, Nat.le_of_ble_eq_true rfl⟩) 0 [0, 1] [1, 2, 0, 0, 0, 0] [] (w_X8_look cyI cyJ cyZ cyB cyO aM aM_d aM_came aM_got aM_held aM_off aM_e aM_f aM_kept aM_found aM_tape aM_comesUp aM_comesDown aM_path aM_gets aM_gotNow aM_bitsOf aM_sizeOf aM_number aM_passing vM_isKept vM_taped vM_leaked vM_keptAll vM_offAll vM_up vM_down vM_sharesUp vM_sharesDown vM_onUp vM_onDown vM_great vM_triedOff vM_triedLeaked vM_triedKept vM_fitting vM_firstSet vM_inAll vM_inAny vM_at vM_sort vM_from vM_value vM_fault cM_d cM_came cM_got cM_held cM_off) rfl rfl rfl rfl rfl (by decide +kernel) rfl rfl (Nat.le_of_ble_eq_true rfl) ⟨Nat.zero_le _, Nat.zero_le _⟩ dX8_look_169 (fun H locs hP hD hS => ?_)
                    refine lv_iload_n hx hb dX8_look_172 rfl (lv_at hl 0 rfl) ?_
                    refine lv_icmp_ne (tgt := 212) hx hb dX8_look_173 (by decide) (fun c22 => ?_) (fun c22 => ?_)
                    · have h := br_neg c22 h
                      refine lv_iinc (v := y9 + 1) (lv' := [(9, .int (y9 + 1)), (1, .int y1), (4, .int y4), (6, .int y6), (7, .int y7), (8, .int y8), (0, .ref aM)]) hx hb dX8_look_212 hl (k := 5) rfl rfl (by decide) rfl (fun ls hl => ?_)
                      refine lv_goto (tgt := 154) hx hb dX8_look_215 (by decide) ?_
                      exact ih154 y1 y4 y6 y7 y8 (y9 + 1) vM_leaked vM_keptAll vM_offAll cM_came cM_got cM_held cM_off _ _ _ hP hD hS (lv_sub hl [1, 2, 3, 4, 5, 0, 6] rfl) h
                    · have h := br_pos c22 h
                      refine lv_aload_n hx hb dX8_look_176 rfl (lv_at hl 6 rfl) ?_
                      refine va_get (D := D) (ci := 7) (v := .ref aM_came) (C := RX8) (T := TX8) (N := 43) hx hb hts in_X8 hown hK hP 0 rfl rfl 8 (by decide) q4 (fun _ h9 => h9) rfl dX8_look_177 ?_
                      refine lv_iload hx hb dX8_look_180 (lv_at hl 5 rfl) ?_
                      refine lv_iload hx hb dX8_look_182 (lv_at hl 2 rfl) ?_
                      refine lv_i2l hx hb dX8_look_184 rfl ?_
                      refine lv_aload_n hx hb dX8_look_185 rfl (lv_at hl 6 rfl) ?_
                      refine lv_iload hx hb dX8_look_186 (lv_at hl 5 rfl) ?_
                      refine lv_iconst (v := 2) hx hb dX8_look_188 (by decide) ?_
                      obtain ⟨u23, hu23, h⟩ := bd_some h
                      refine cl_Vi (rest := [.long y6.toInt64, .int y9, .ref aM_came]) F hK hP hD hS hA hl (t_X8_its l D cyI cyJ cyZ cyB cyO aM aM_d aM_e aM_f aM_kept aM_found aM_tape aM_came aM_got aM_held aM_off aM_comesUp aM_comesDown aM_path aM_gets aM_gotNow aM_bitsOf aM_sizeOf aM_number aM_passing vM_isKept vM_taped vM_leaked vM_keptAll vM_offAll vM_up vM_down vM_sharesUp vM_sharesDown vM_onUp vM_onDown vM_great vM_triedOff vM_triedLeaked vM_triedKept vM_fitting vM_firstSet vM_inAll vM_inAny vM_at vM_sort vM_from vM_value vM_fault cM_d y9 (2 : Int32) u23 hu23) (cwV 2 hts gX8_look_X8_its rfl rfl rfl (by decide +kernel) ⟨Nat.le_of_ble_eq_true rfl, Nat.le_of_ble_eq_true rfl⟩) 0 [0, 1] [1, 2, 0, 0, 0, 0] [] (w_X8_look cyI cyJ cyZ cyB cyO aM aM_d aM_came aM_got aM_held aM_off aM_e aM_f aM_kept aM_found aM_tape aM_comesUp aM_comesDown aM_path aM_gets aM_gotNow aM_bitsOf aM_sizeOf aM_number aM_passing vM_isKept vM_taped vM_leaked vM_keptAll vM_offAll vM_up vM_down vM_sharesUp vM_sharesDown vM_onUp vM_onDown vM_great vM_triedOff vM_triedLeaked vM_triedKept vM_fitting vM_firstSet vM_inAll vM_inAny vM_at vM_sort vM_from vM_value vM_fault cM_d cM_came cM_got cM_held cM_off) rfl rfl rfl rfl rfl (by decide +kernel) rfl rfl (Nat.le_of_ble_eq_true rfl) ⟨Nat.zero_le _, Nat.zero_le _⟩ dX8_look_189 (fun H locs hP hD hS => ?_)
                      refine lv_i2l hx hb dX8_look_192 rfl ?_
                      refine lv_lmul hx hb dX8_look_193 ?_
                      refine lv_iload hx hb dX8_look_194 (lv_at hl 3 rfl) ?_
                      refine lv_i2l hx hb dX8_look_196 rfl ?_
                      obtain ⟨g24, h⟩ := gd_some h
                      refine lv_ldiv hx hb dX8_look_197 g24 ?_
                      refine lv_l2i hx hb dX8_look_198 rfl ?_
                      obtain ⟨g25, h⟩ := gd_some h
                      refine va_iast hx hb hK hP hD hS 2 0 rfl rfl g25 dX8_look_199 (fun H locs hP hD hS => ?_)
                      have hP : va_P D vwCl (w_X8_look cyI cyJ cyZ cyB cyO aM aM_d aM_came aM_got aM_held aM_off aM_e aM_f aM_kept aM_found aM_tape aM_comesUp aM_comesDown aM_path aM_gets aM_gotNow aM_bitsOf aM_sizeOf aM_number aM_passing vM_isKept vM_taped vM_leaked vM_keptAll vM_offAll vM_up vM_down vM_sharesUp vM_sharesDown vM_onUp vM_onDown vM_great vM_triedOff vM_triedLeaked vM_triedKept vM_fitting vM_firstSet vM_inAll vM_inAny vM_at vM_sort vM_from vM_value vM_fault cM_d (upd cM_came y9.toNatClampNeg (((y6.toInt64 * u23.toInt64) / y7.toInt64).toInt32)) cM_got cM_held cM_off) H := hP
                      have hD : va_D A (w_X8_look cyI cyJ cyZ cyB cyO aM aM_d aM_came aM_got aM_held aM_off aM_e aM_f aM_kept aM_found aM_tape aM_comesUp aM_comesDown aM_path aM_gets aM_gotNow aM_bitsOf aM_sizeOf aM_number aM_passing vM_isKept vM_taped vM_leaked vM_keptAll vM_offAll vM_up vM_down vM_sharesUp vM_sharesDown vM_onUp vM_onDown vM_great vM_triedOff vM_triedLeaked vM_triedKept vM_fitting vM_firstSet vM_inAll vM_inAny vM_at vM_sort vM_from vM_value vM_fault cM_d (upd cM_came y9.toNatClampNeg (((y6.toInt64 * u23.toInt64) / y7.toInt64).toInt32)) cM_got cM_held cM_off) := hD
                      refine lv_iload hx hb dX8_look_200 (lv_at hl 4 rfl) ?_
                      refine lv_aload_n hx hb dX8_look_202 rfl (lv_at hl 6 rfl) ?_
                      refine va_get (D := D) (ci := 7) (v := .ref aM_came) (C := RX8) (T := TX8) (N := 43) hx hb hts in_X8 hown hK hP 0 rfl rfl 8 (by decide) q4 (fun _ h9 => h9) rfl dX8_look_203 ?_
                      refine lv_iload hx hb dX8_look_206 (lv_at hl 5 rfl) ?_
                      obtain ⟨g26, h⟩ := gd_some h
                      refine va_iald hx hb hK hP 2 0 rfl rfl g26 dX8_look_208 ?_
                      refine lv_isub hx hb dX8_look_209 ?_
                      refine lv_topi (fun z27 ez27 => ?_)
                      have h := nm_at ez27 h
                      refine lv_istore (lv' := [(8, .int z27), (1, .int y1), (4, .int y4), (6, .int y6), (7, .int y7), (9, .int y9), (0, .ref aM)]) hx hb dX8_look_210 hl (by decide) rfl (fun ls hl => ?_)
                      refine lv_iinc (v := y9 + 1) (lv' := [(9, .int (y9 + 1)), (8, .int z27), (1, .int y1), (4, .int y4), (6, .int y6), (7, .int y7), (0, .ref aM)]) hx hb dX8_look_212 hl (k := 5) rfl rfl (by decide) rfl (fun ls hl => ?_)
                      refine lv_goto (tgt := 154) hx hb dX8_look_215 (by decide) ?_
                      exact ih154 y1 y4 y6 y7 z27 (y9 + 1) vM_leaked vM_keptAll vM_offAll (upd cM_came y9.toNatClampNeg (((y6.toInt64 * u23.toInt64) / y7.toInt64).toInt32)) cM_got cM_held cM_off _ _ _ hP hD hS (lv_sub hl [2, 3, 4, 5, 1, 0, 6] rfl) h
              exact lp154 FU y1 u6 z15 u16 z15 z17 vM_leaked vM_keptAll vM_offAll cM_came (upd cM_got y1.toNatClampNeg u7) (upd cM_held y1.toNatClampNeg u12) cM_off _ _ _ hP hD hS (lv_sub hl [8, 5, 3, 2, 1, 0, 9] rfl) h
        exact lp51 FU (0 : Int32) vM_leaked vM_keptAll vM_offAll cM_came cM_got cM_held cM_off _ _ _ hP hD hS (lv_sub hl [0, 1] rfl) h
      · have h := br_neg c1 h
        refine lv_aload_n hx hb dX8_look_23 rfl (lv_at hl 1 rfl) ?_
        refine va_get (D := D) (ci := 7) (v := .ref aM_came) (C := RX8) (T := TX8) (N := 43) hx hb hts in_X8 hown hK hP 0 rfl rfl 8 (by decide) q4 (fun _ h9 => h9) rfl dX8_look_24 ?_
        refine lv_iload_n hx hb dX8_look_27 rfl (lv_at hl 0 rfl) ?_
        refine lv_iload_n hx hb dX8_look_28 rfl (lv_at hl 0 rfl) ?_
        refine lv_if_ne (tgt := 41) hx hb dX8_look_29 (by decide) (fun c28 => ?_) (fun c28 => ?_)
        · have h := br_neg c28 h
          refine lv_iconst (v := 0) hx hb dX8_look_41 (by decide) ?_
          obtain ⟨g29, h⟩ := gd_some h
          refine va_iast hx hb hK hP hD hS 2 0 rfl rfl g29 dX8_look_42 (fun H locs hP hD hS => ?_)
          have hP : va_P D vwCl (w_X8_look cyI cyJ cyZ cyB cyO aM aM_d aM_came aM_got aM_held aM_off aM_e aM_f aM_kept aM_found aM_tape aM_comesUp aM_comesDown aM_path aM_gets aM_gotNow aM_bitsOf aM_sizeOf aM_number aM_passing vM_isKept vM_taped vM_leaked vM_keptAll vM_offAll vM_up vM_down vM_sharesUp vM_sharesDown vM_onUp vM_onDown vM_great vM_triedOff vM_triedLeaked vM_triedKept vM_fitting vM_firstSet vM_inAll vM_inAny vM_at vM_sort vM_from vM_value vM_fault cM_d (upd cM_came y1.toNatClampNeg (0 : Int32)) cM_got cM_held cM_off) H := hP
          have hD : va_D A (w_X8_look cyI cyJ cyZ cyB cyO aM aM_d aM_came aM_got aM_held aM_off aM_e aM_f aM_kept aM_found aM_tape aM_comesUp aM_comesDown aM_path aM_gets aM_gotNow aM_bitsOf aM_sizeOf aM_number aM_passing vM_isKept vM_taped vM_leaked vM_keptAll vM_offAll vM_up vM_down vM_sharesUp vM_sharesDown vM_onUp vM_onDown vM_great vM_triedOff vM_triedLeaked vM_triedKept vM_fitting vM_firstSet vM_inAll vM_inAny vM_at vM_sort vM_from vM_value vM_fault cM_d (upd cM_came y1.toNatClampNeg (0 : Int32)) cM_got cM_held cM_off) := hD
          refine lv_iinc (v := y1 + 1) (lv' := [(1, .int (y1 + 1)), (0, .ref aM)]) hx hb dX8_look_43 hl (k := 0) rfl rfl (by decide) rfl (fun ls hl => ?_)
          refine lv_goto (tgt := 17) hx hb dX8_look_46 (by decide) ?_
          exact ih17 (y1 + 1) vM_leaked vM_keptAll vM_offAll (upd cM_came y1.toNatClampNeg (0 : Int32)) cM_got cM_held cM_off _ _ _ hP hD hS (lv_sub hl [0, 1] rfl) h
        · have h := br_pos c28 h
          refine lv_aload_n hx hb dX8_look_32 rfl (lv_at hl 1 rfl) ?_
          refine va_get (D := D) (ci := 7) (v := .ref aM_d) (C := RX8) (T := TX8) (N := 43) hx hb hts in_X8 hown hK hP 0 rfl rfl 0 (by decide) q5 (fun _ h9 => h9) rfl dX8_look_33 ?_
          refine lv_iconst (v := 3) hx hb dX8_look_36 (by decide) ?_
          refine va_iald hx hb hK hP 1 0 rfl rfl (by unfold vp_in; decide) dX8_look_37 ?_
          refine lv_goto (tgt := 42) hx hb dX8_look_38 (by decide) ?_
          obtain ⟨g30, h⟩ := gd_some h
          refine va_iast hx hb hK hP hD hS 2 0 rfl rfl g30 dX8_look_42 (fun H locs hP hD hS => ?_)
          have hP : va_P D vwCl (w_X8_look cyI cyJ cyZ cyB cyO aM aM_d aM_came aM_got aM_held aM_off aM_e aM_f aM_kept aM_found aM_tape aM_comesUp aM_comesDown aM_path aM_gets aM_gotNow aM_bitsOf aM_sizeOf aM_number aM_passing vM_isKept vM_taped vM_leaked vM_keptAll vM_offAll vM_up vM_down vM_sharesUp vM_sharesDown vM_onUp vM_onDown vM_great vM_triedOff vM_triedLeaked vM_triedKept vM_fitting vM_firstSet vM_inAll vM_inAny vM_at vM_sort vM_from vM_value vM_fault cM_d (upd cM_came y1.toNatClampNeg (cM_d (3 : Int32).toNatClampNeg)) cM_got cM_held cM_off) H := hP
          have hD : va_D A (w_X8_look cyI cyJ cyZ cyB cyO aM aM_d aM_came aM_got aM_held aM_off aM_e aM_f aM_kept aM_found aM_tape aM_comesUp aM_comesDown aM_path aM_gets aM_gotNow aM_bitsOf aM_sizeOf aM_number aM_passing vM_isKept vM_taped vM_leaked vM_keptAll vM_offAll vM_up vM_down vM_sharesUp vM_sharesDown vM_onUp vM_onDown vM_great vM_triedOff vM_triedLeaked vM_triedKept vM_fitting vM_firstSet vM_inAll vM_inAny vM_at vM_sort vM_from vM_value vM_fault cM_d (upd cM_came y1.toNatClampNeg (cM_d (3 : Int32).toNatClampNeg)) cM_got cM_held cM_off) := hD
          refine lv_iinc (v := y1 + 1) (lv' := [(1, .int (y1 + 1)), (0, .ref aM)]) hx hb dX8_look_43 hl (k := 0) rfl rfl (by decide) rfl (fun ls hl => ?_)
          refine lv_goto (tgt := 17) hx hb dX8_look_46 (by decide) ?_
          exact ih17 (y1 + 1) vM_leaked vM_keptAll vM_offAll (upd cM_came y1.toNatClampNeg (cM_d (3 : Int32).toNatClampNeg)) cM_got cM_held cM_off _ _ _ hP hD hS (lv_sub hl [0, 1] rfl) h
  exact lp17 FU (0 : Int32) (0 : Int32) (0 : Int32) (0 : Int32) cM_came cM_got cM_held cM_off _ _ _ hP hD hS (lv_sub hl [0, 1] rfl) h
/-! ===== X8_anHour ===== -/
def w_X8_anHour (cyI cyJ cyZ cyB cyO : ClassId) (aM aM_d aM_came aM_got aM_held aM_off aM_e aM_f aM_kept aM_found aM_tape aM_comesUp aM_comesDown aM_path aM_gets aM_gotNow aM_bitsOf aM_sizeOf aM_number aM_passing : Nat) (vM_isKept : Int32) (vM_taped : Int32) (vM_leaked : Int32) (vM_keptAll : Int32) (vM_offAll : Int32) (vM_up : Int64) (vM_down : Int64) (vM_sharesUp : Int64) (vM_sharesDown : Int64) (vM_onUp : Int64) (vM_onDown : Int64) (vM_great : Int32) (vM_triedOff : Int32) (vM_triedLeaked : Int32) (vM_triedKept : Int32) (vM_fitting : Int32) (vM_firstSet : Int32) (vM_inAll : Int32) (vM_inAny : Int32) (vM_at : Int32) (vM_sort : Int32) (vM_from : Int32) (vM_value : Int64) (vM_fault : Int32) (cM_d : Nat → Int32) (cM_came : Nat → Int32) (cM_got : Nat → Int32) (cM_held : Nat → Int32) (cM_off : Nat → Int32) : va_W := [(aM, .inr (7, [.ref aM_d, .ref aM_e, .ref aM_f, .ref aM_kept, .int vM_isKept, .ref aM_found, .ref aM_tape, .int vM_taped, .ref aM_came, .ref aM_got, .ref aM_held, .ref aM_off, .int vM_leaked, .int vM_keptAll, .int vM_offAll, .ref aM_comesUp, .ref aM_comesDown, .long vM_up, .long vM_down, .long vM_sharesUp, .long vM_sharesDown, .long vM_onUp, .long vM_onDown, .int vM_great, .ref aM_path, .ref aM_gets, .int vM_triedOff, .int vM_triedLeaked, .int vM_triedKept, .ref aM_gotNow, .int vM_fitting, .int vM_firstSet, .int vM_inAll, .int vM_inAny, .int vM_at, .int vM_sort, .int vM_from, .long vM_value, .int vM_fault, .ref aM_bitsOf, .ref aM_sizeOf, .ref aM_number, .ref aM_passing])), (aM_d, .inl (cyI, 64, .inl cM_d)), (aM_came, .inl (cyI, 10, .inl cM_came)), (aM_got, .inl (cyI, 10, .inl cM_got)), (aM_held, .inl (cyI, 10, .inl cM_held)), (aM_off, .inl (cyI, 10, .inl cM_off))]
set_option maxHeartbeats 4000000 in
set_option maxRecDepth 100000 in
theorem t_X8_anHour (l : Launch) (D : va_G) (cyI cyJ cyZ cyB cyO : ClassId) (aM aM_d aM_came aM_got aM_held aM_off aM_e aM_f aM_kept aM_found aM_tape aM_comesUp aM_comesDown aM_path aM_gets aM_gotNow aM_bitsOf aM_sizeOf aM_number aM_passing : Nat) (vM_isKept : Int32) (vM_taped : Int32) (vM_leaked : Int32) (vM_keptAll : Int32) (vM_offAll : Int32) (vM_up : Int64) (vM_down : Int64) (vM_sharesUp : Int64) (vM_sharesDown : Int64) (vM_onUp : Int64) (vM_onDown : Int64) (vM_great : Int32) (vM_triedOff : Int32) (vM_triedLeaked : Int32) (vM_triedKept : Int32) (vM_fitting : Int32) (vM_firstSet : Int32) (vM_inAll : Int32) (vM_inAny : Int32) (vM_at : Int32) (vM_sort : Int32) (vM_from : Int32) (vM_value : Int64) (vM_fault : Int32) (cM_d : Nat → Int32) (cM_came : Nat → Int32) (cM_got : Nat → Int32) (cM_held : Nat → Int32) (cM_off : Nat → Int32) (out : Int32 × Int32 × Int32 × (Nat → Int32) × (Nat → Int32) × (Nat → Int32) × (Nat → Int32) × (Nat → Int32)) (h : f_X8_anHour vM_leaked vM_keptAll vM_offAll cM_d cM_came cM_got cM_held cM_off = some out) : Mv l yX8_anHour wsX8_anHour ({ frames := 3, cells := 0, slots := 0, locals := 74 } : Room) D (tyA cyI cyJ cyZ cyB cyO) [.ref aM] (w_X8_anHour cyI cyJ cyZ cyB cyO aM aM_d aM_came aM_got aM_held aM_off aM_e aM_f aM_kept aM_found aM_tape aM_comesUp aM_comesDown aM_path aM_gets aM_gotNow aM_bitsOf aM_sizeOf aM_number aM_passing vM_isKept vM_taped vM_leaked vM_keptAll vM_offAll vM_up vM_down vM_sharesUp vM_sharesDown vM_onUp vM_onDown vM_great vM_triedOff vM_triedLeaked vM_triedKept vM_fitting vM_firstSet vM_inAll vM_inAny vM_at vM_sort vM_from vM_value vM_fault cM_d cM_came cM_got cM_held cM_off) (w_X8_anHour cyI cyJ cyZ cyB cyO aM aM_d aM_came aM_got aM_held aM_off aM_e aM_f aM_kept aM_found aM_tape aM_comesUp aM_comesDown aM_path aM_gets aM_gotNow aM_bitsOf aM_sizeOf aM_number aM_passing vM_isKept vM_taped out.1 out.2.1 out.2.2.1 vM_up vM_down vM_sharesUp vM_sharesDown vM_onUp vM_onDown vM_great vM_triedOff vM_triedLeaked vM_triedKept vM_fitting vM_firstSet vM_inAll vM_inAny vM_at vM_sort vM_from vM_value vM_fault out.2.2.2.1 out.2.2.2.2.1 out.2.2.2.2.2.1 out.2.2.2.2.2.2.1 out.2.2.2.2.2.2.2) := by
  refine Mv.mk (cc := cX8_anHour) (maxL := 2) (own := RX8) (by decide) rfl rfl (Nat.le_of_ble_eq_true rfl) ?_
  intro p e s m args below meth c A Q F hK hP hD hA hret ls hl
  obtain ⟨hx, hb, hml, hown, hts⟩ := id F
  have hS : va_S A s.heap s.heap [] := va_S.rf
  have hl : lv_has ls 2 [(0, .ref aM)] := hl
  have in_X8 : ∀ w ∈ wsX80, w ∈ wsX8_anHour := by decide +kernel
  have q4 := hts (Cond.methodLink RX8 102 yX8_look) (List.mem_of_getElem? (i := 4) rfl)
  have q1 := hts (Cond.fieldLink RX8 7 "ThirdFountainModel" "d" "[I") (List.mem_of_getElem? (i := 1) rfl)
  have q14 := hts (Cond.methodLink RX8 74 yX8_its) (List.mem_of_getElem? (i := 14) rfl)
  have q2 := hts (Cond.fieldLink RX8 32 "ThirdFountainModel" "got" "[I") (List.mem_of_getElem? (i := 2) rfl)
  have q31 := hts (Cond.methodLink RX8 105 yX8_sets) (List.mem_of_getElem? (i := 31) rfl)
  have q3 := hts (Cond.fieldLink RX8 35 "ThirdFountainModel" "held" "[I") (List.mem_of_getElem? (i := 3) rfl)
  unfold f_X8_anHour at h
  refine lv_aload_n hx hb dX8_anHour_0 rfl (lv_at hl 0 rfl) ?_
  obtain ⟨u1, hu1, h⟩ := bd_some h
  refine cl_Vv (rest := []) F hK hP hD hS hA hl (t_X8_look l D cyI cyJ cyZ cyB cyO aM aM_d aM_came aM_got aM_held aM_off aM_e aM_f aM_kept aM_found aM_tape aM_comesUp aM_comesDown aM_path aM_gets aM_gotNow aM_bitsOf aM_sizeOf aM_number aM_passing vM_isKept vM_taped vM_leaked vM_keptAll vM_offAll vM_up vM_down vM_sharesUp vM_sharesDown vM_onUp vM_onDown vM_great vM_triedOff vM_triedLeaked vM_triedKept vM_fitting vM_firstSet vM_inAll vM_inAny vM_at vM_sort vM_from vM_value vM_fault cM_d cM_came cM_got cM_held cM_off u1 hu1) (cwV 0 hts gX8_anHour_X8_look rfl rfl rfl (by decide +kernel) ⟨Nat.le_of_ble_eq_true rfl, Nat.le_of_ble_eq_true rfl⟩) 0 [0, 1, 2, 3, 4, 5] [1, 2, 3, 4, 5, 6] [] (w_X8_anHour cyI cyJ cyZ cyB cyO aM aM_d aM_came aM_got aM_held aM_off aM_e aM_f aM_kept aM_found aM_tape aM_comesUp aM_comesDown aM_path aM_gets aM_gotNow aM_bitsOf aM_sizeOf aM_number aM_passing vM_isKept vM_taped u1.1 u1.2.1 u1.2.2.1 vM_up vM_down vM_sharesUp vM_sharesDown vM_onUp vM_onDown vM_great vM_triedOff vM_triedLeaked vM_triedKept vM_fitting vM_firstSet vM_inAll vM_inAny vM_at vM_sort vM_from vM_value vM_fault cM_d u1.2.2.2.1 u1.2.2.2.2.1 u1.2.2.2.2.2.1 u1.2.2.2.2.2.2) rfl rfl rfl rfl rfl (by decide +kernel) rfl rfl (Nat.le_of_ble_eq_true rfl) ⟨Nat.zero_le _, Nat.zero_le _⟩ dX8_anHour_1 (fun H locs hP hD hS => ?_)
  refine lv_iconst (v := 0) hx hb dX8_anHour_4 (by decide) ?_
  refine lv_istore_n (lv' := [(1, .int (0 : Int32)), (0, .ref aM)]) hx hb dX8_anHour_5 rfl hl (by decide) rfl (fun ls hl => ?_)
  have lp6 : ∀ (k6 : Nat) (y1 : Int32) (vM_leaked : Int32) (vM_keptAll : Int32) (vM_offAll : Int32) (cM_d : Nat → Int32) (cM_came : Nat → Int32) (cM_got : Nat → Int32) (cM_held : Nat → Int32) (cM_off : Nat → Int32) (H : Heap) (locs : List Loc) (ls : Array Slot), va_P D vwCl (w_X8_anHour cyI cyJ cyZ cyB cyO aM aM_d aM_came aM_got aM_held aM_off aM_e aM_f aM_kept aM_found aM_tape aM_comesUp aM_comesDown aM_path aM_gets aM_gotNow aM_bitsOf aM_sizeOf aM_number aM_passing vM_isKept vM_taped vM_leaked vM_keptAll vM_offAll vM_up vM_down vM_sharesUp vM_sharesDown vM_onUp vM_onDown vM_great vM_triedOff vM_triedLeaked vM_triedKept vM_fitting vM_firstSet vM_inAll vM_inAny vM_at vM_sort vM_from vM_value vM_fault cM_d cM_came cM_got cM_held cM_off) H → va_D A (w_X8_anHour cyI cyJ cyZ cyB cyO aM aM_d aM_came aM_got aM_held aM_off aM_e aM_f aM_kept aM_found aM_tape aM_comesUp aM_comesDown aM_path aM_gets aM_gotNow aM_bitsOf aM_sizeOf aM_number aM_passing vM_isKept vM_taped vM_leaked vM_keptAll vM_offAll vM_up vM_down vM_sharesUp vM_sharesDown vM_onUp vM_onDown vM_great vM_triedOff vM_triedLeaked vM_triedKept vM_fitting vM_firstSet vM_inAll vM_inAny vM_at vM_sort vM_from vM_value vM_fault cM_d cM_came cM_got cM_held cM_off) → va_S A s.heap H locs → lv_has ls 2 [(1, .int y1), (0, .ref aM)] → (f_X8_anHour_L6 k6) (y1, vM_leaked, vM_keptAll, vM_offAll, cM_d, cM_came, cM_got, cM_held, cM_off) = some out → W p l e ({ frames := 3, cells := 0, slots := 0, locals := 74 } : Room) s m args below meth c H locs 0 0 Q (F0 m 6 ls []) := by
    intro k6
    induction k6 with
    | zero => intro y1 vM_leaked vM_keptAll vM_offAll cM_d cM_came cM_got cM_held cM_off H locs ls hP hD hS hl h; cases h
    | succ k6 ih6 =>
      intro y1 vM_leaked vM_keptAll vM_offAll cM_d cM_came cM_got cM_held cM_off H locs ls hP hD hS hl h
      have h : f_X8_anHour_L6_b (f_X8_anHour_L6 k6) y1 vM_leaked vM_keptAll vM_offAll cM_d cM_came cM_got cM_held cM_off = some out := h
      unfold f_X8_anHour_L6_b at h
      refine lv_iload_n hx hb dX8_anHour_6 rfl (lv_at hl 0 rfl) ?_
      refine lv_aload_n hx hb dX8_anHour_7 rfl (lv_at hl 1 rfl) ?_
      refine va_get (D := D) (ci := 7) (v := .ref aM_d) (C := RX8) (T := TX8) (N := 43) hx hb hts in_X8 hown hK hP 0 rfl rfl 0 (by decide) q1 (fun _ h9 => h9) rfl dX8_anHour_8 ?_
      refine lv_iconst (v := 0) hx hb dX8_anHour_11 (by decide) ?_
      refine va_iald hx hb hK hP 1 0 rfl rfl (by unfold vp_in; decide) dX8_anHour_12 ?_
      have j60 : ∀ (vM_leaked : Int32) (vM_keptAll : Int32) (vM_offAll : Int32) (cM_d : Nat → Int32) (cM_came : Nat → Int32) (cM_got : Nat → Int32) (cM_held : Nat → Int32) (cM_off : Nat → Int32) (H : Heap) (locs : List Loc) (ls : Array Slot), va_P D vwCl (w_X8_anHour cyI cyJ cyZ cyB cyO aM aM_d aM_came aM_got aM_held aM_off aM_e aM_f aM_kept aM_found aM_tape aM_comesUp aM_comesDown aM_path aM_gets aM_gotNow aM_bitsOf aM_sizeOf aM_number aM_passing vM_isKept vM_taped vM_leaked vM_keptAll vM_offAll vM_up vM_down vM_sharesUp vM_sharesDown vM_onUp vM_onDown vM_great vM_triedOff vM_triedLeaked vM_triedKept vM_fitting vM_firstSet vM_inAll vM_inAny vM_at vM_sort vM_from vM_value vM_fault cM_d cM_came cM_got cM_held cM_off) H → va_D A (w_X8_anHour cyI cyJ cyZ cyB cyO aM aM_d aM_came aM_got aM_held aM_off aM_e aM_f aM_kept aM_found aM_tape aM_comesUp aM_comesDown aM_path aM_gets aM_gotNow aM_bitsOf aM_sizeOf aM_number aM_passing vM_isKept vM_taped vM_leaked vM_keptAll vM_offAll vM_up vM_down vM_sharesUp vM_sharesDown vM_onUp vM_onDown vM_great vM_triedOff vM_triedLeaked vM_triedKept vM_fitting vM_firstSet vM_inAll vM_inAny vM_at vM_sort vM_from vM_value vM_fault cM_d cM_came cM_got cM_held cM_off) → va_S A s.heap H locs → lv_has ls 2 [(0, .ref aM)] → f_X8_anHour_J60 vM_leaked vM_keptAll vM_offAll cM_d cM_came cM_got cM_held cM_off = some out → W p l e ({ frames := 3, cells := 0, slots := 0, locals := 74 } : Room) s m args below meth c H locs 0 0 Q (F0 m 60 ls []) := by
        intro vM_leaked vM_keptAll vM_offAll cM_d cM_came cM_got cM_held cM_off H locs ls hP hD hS hl h
        unfold f_X8_anHour_J60 at h
        refine lv_aload_n hx hb dX8_anHour_60 rfl (lv_at hl 0 rfl) ?_
        refine va_get (D := D) (ci := 7) (v := .ref aM_d) (C := RX8) (T := TX8) (N := 43) hx hb hts in_X8 hown hK hP 0 rfl rfl 0 (by decide) q1 (fun _ h9 => h9) rfl dX8_anHour_61 ?_
        refine lv_iconst (v := 1) hx hb dX8_anHour_64 (by decide) ?_
        refine lv_dup2_11 hx hb dX8_anHour_65 rfl rfl ?_
        refine va_iald hx hb hK hP 1 0 rfl rfl (by unfold vp_in; decide) dX8_anHour_66 ?_
        refine lv_iconst (v := 1) hx hb dX8_anHour_67 (by decide) ?_
        refine lv_iadd hx hb dX8_anHour_68 ?_
        refine va_iast hx hb hK hP hD hS 1 0 rfl rfl (by unfold vp_in; decide) dX8_anHour_69 (fun H locs hP hD hS => ?_)
        have hP : va_P D vwCl (w_X8_anHour cyI cyJ cyZ cyB cyO aM aM_d aM_came aM_got aM_held aM_off aM_e aM_f aM_kept aM_found aM_tape aM_comesUp aM_comesDown aM_path aM_gets aM_gotNow aM_bitsOf aM_sizeOf aM_number aM_passing vM_isKept vM_taped vM_leaked vM_keptAll vM_offAll vM_up vM_down vM_sharesUp vM_sharesDown vM_onUp vM_onDown vM_great vM_triedOff vM_triedLeaked vM_triedKept vM_fitting vM_firstSet vM_inAll vM_inAny vM_at vM_sort vM_from vM_value vM_fault (upd cM_d (1 : Int32).toNatClampNeg ((cM_d (1 : Int32).toNatClampNeg) + (1 : Int32))) cM_came cM_got cM_held cM_off) H := hP
        have hD : va_D A (w_X8_anHour cyI cyJ cyZ cyB cyO aM aM_d aM_came aM_got aM_held aM_off aM_e aM_f aM_kept aM_found aM_tape aM_comesUp aM_comesDown aM_path aM_gets aM_gotNow aM_bitsOf aM_sizeOf aM_number aM_passing vM_isKept vM_taped vM_leaked vM_keptAll vM_offAll vM_up vM_down vM_sharesUp vM_sharesDown vM_onUp vM_onDown vM_great vM_triedOff vM_triedLeaked vM_triedKept vM_fitting vM_firstSet vM_inAll vM_inAny vM_at vM_sort vM_from vM_value vM_fault (upd cM_d (1 : Int32).toNatClampNeg ((cM_d (1 : Int32).toNatClampNeg) + (1 : Int32))) cM_came cM_got cM_held cM_off) := hD
        obtain rfl := Option.some.inj h
        exact hret _ _ _ _ hP hD hS dX8_anHour_70 
      refine lv_icmp_ge (tgt := 60) hx hb dX8_anHour_13 (by decide) (fun c2 => ?_) (fun c2 => ?_)
      · have h := br_pos c2 h
        exact j60 vM_leaked vM_keptAll vM_offAll cM_d cM_came cM_got cM_held cM_off _ _ _ hP hD hS (lv_sub hl [1] rfl) h
      · have h := br_neg c2 h
        refine lv_aload_n hx hb dX8_anHour_16 rfl (lv_at hl 1 rfl) ?_
        refine lv_iload_n hx hb dX8_anHour_17 rfl (lv_at hl 0 rfl) ?_
        refine lv_iconst (v := 4) hx hb dX8_anHour_18 (by decide) ?_
        refine lv_aload_n hx hb dX8_anHour_19 rfl (lv_at hl 1 rfl) ?_
        refine lv_iload_n hx hb dX8_anHour_20 rfl (lv_at hl 0 rfl) ?_
        refine lv_iconst (v := 4) hx hb dX8_anHour_21 (by decide) ?_
        obtain ⟨u3, hu3, h⟩ := bd_some h
        refine cl_Vi (rest := [.int (4 : Int32), .int y1, .ref aM]) F hK hP hD hS hA hl (t_X8_its l D cyI cyJ cyZ cyB cyO aM aM_d aM_e aM_f aM_kept aM_found aM_tape aM_came aM_got aM_held aM_off aM_comesUp aM_comesDown aM_path aM_gets aM_gotNow aM_bitsOf aM_sizeOf aM_number aM_passing vM_isKept vM_taped vM_leaked vM_keptAll vM_offAll vM_up vM_down vM_sharesUp vM_sharesDown vM_onUp vM_onDown vM_great vM_triedOff vM_triedLeaked vM_triedKept vM_fitting vM_firstSet vM_inAll vM_inAny vM_at vM_sort vM_from vM_value vM_fault cM_d y1 (4 : Int32) u3 hu3) (cwV 2 hts gX8_anHour_X8_its rfl rfl rfl (by decide +kernel) ⟨Nat.le_of_ble_eq_true rfl, Nat.le_of_ble_eq_true rfl⟩) 0 [0, 1] [1, 2, 0, 0, 0, 0] [] (w_X8_anHour cyI cyJ cyZ cyB cyO aM aM_d aM_came aM_got aM_held aM_off aM_e aM_f aM_kept aM_found aM_tape aM_comesUp aM_comesDown aM_path aM_gets aM_gotNow aM_bitsOf aM_sizeOf aM_number aM_passing vM_isKept vM_taped vM_leaked vM_keptAll vM_offAll vM_up vM_down vM_sharesUp vM_sharesDown vM_onUp vM_onDown vM_great vM_triedOff vM_triedLeaked vM_triedKept vM_fitting vM_firstSet vM_inAll vM_inAny vM_at vM_sort vM_from vM_value vM_fault cM_d cM_came cM_got cM_held cM_off) rfl rfl rfl rfl rfl (by decide +kernel) rfl rfl (Nat.le_of_ble_eq_true rfl) ⟨Nat.zero_le _, Nat.zero_le _⟩ dX8_anHour_22 (fun H locs hP hD hS => ?_)
        refine lv_aload_n hx hb dX8_anHour_25 rfl (lv_at hl 1 rfl) ?_
        refine va_get (D := D) (ci := 7) (v := .ref aM_got) (C := RX8) (T := TX8) (N := 43) hx hb hts in_X8 hown hK hP 0 rfl rfl 9 (by decide) q2 (fun _ h9 => h9) rfl dX8_anHour_26 ?_
        refine lv_iload_n hx hb dX8_anHour_29 rfl (lv_at hl 0 rfl) ?_
        obtain ⟨g4, h⟩ := gd_some h
        refine va_iald hx hb hK hP 3 0 rfl rfl g4 dX8_anHour_30 ?_
        refine lv_iadd hx hb dX8_anHour_31 ?_
        obtain ⟨u5, hu5, h⟩ := bd_some h
        refine cl_Vv (rest := []) F hK hP hD hS hA hl (t_X8_sets l D cyI cyJ cyZ cyB cyO aM aM_d aM_e aM_f aM_kept aM_found aM_tape aM_came aM_got aM_held aM_off aM_comesUp aM_comesDown aM_path aM_gets aM_gotNow aM_bitsOf aM_sizeOf aM_number aM_passing vM_isKept vM_taped vM_leaked vM_keptAll vM_offAll vM_up vM_down vM_sharesUp vM_sharesDown vM_onUp vM_onDown vM_great vM_triedOff vM_triedLeaked vM_triedKept vM_fitting vM_firstSet vM_inAll vM_inAny vM_at vM_sort vM_from vM_value vM_fault cM_d y1 (4 : Int32) (u3 + (cM_got y1.toNatClampNeg)) u5 hu5) (cwV 3 hts gX8_anHour_X8_sets rfl rfl rfl (by decide +kernel) ⟨Nat.le_of_ble_eq_true rfl, Nat.le_of_ble_eq_true rfl⟩) 0 [0, 1] [1, 2, 0, 0, 0, 0] [] (w_X8_anHour cyI cyJ cyZ cyB cyO aM aM_d aM_came aM_got aM_held aM_off aM_e aM_f aM_kept aM_found aM_tape aM_comesUp aM_comesDown aM_path aM_gets aM_gotNow aM_bitsOf aM_sizeOf aM_number aM_passing vM_isKept vM_taped vM_leaked vM_keptAll vM_offAll vM_up vM_down vM_sharesUp vM_sharesDown vM_onUp vM_onDown vM_great vM_triedOff vM_triedLeaked vM_triedKept vM_fitting vM_firstSet vM_inAll vM_inAny vM_at vM_sort vM_from vM_value vM_fault u5 cM_came cM_got cM_held cM_off) rfl rfl rfl rfl rfl (by decide +kernel) rfl rfl (Nat.le_of_ble_eq_true rfl) ⟨Nat.zero_le _, Nat.zero_le _⟩ dX8_anHour_32 (fun H locs hP hD hS => ?_)
        refine lv_aload_n hx hb dX8_anHour_35 rfl (lv_at hl 1 rfl) ?_
        refine lv_iload_n hx hb dX8_anHour_36 rfl (lv_at hl 0 rfl) ?_
        refine lv_iconst (v := 3) hx hb dX8_anHour_37 (by decide) ?_
        refine lv_aload_n hx hb dX8_anHour_38 rfl (lv_at hl 1 rfl) ?_
        refine lv_iload_n hx hb dX8_anHour_39 rfl (lv_at hl 0 rfl) ?_
        refine lv_iconst (v := 3) hx hb dX8_anHour_40 (by decide) ?_
        obtain ⟨u6, hu6, h⟩ := bd_some h
        refine cl_Vi (rest := [.int (3 : Int32), .int y1, .ref aM]) F hK hP hD hS hA hl (t_X8_its l D cyI cyJ cyZ cyB cyO aM aM_d aM_e aM_f aM_kept aM_found aM_tape aM_came aM_got aM_held aM_off aM_comesUp aM_comesDown aM_path aM_gets aM_gotNow aM_bitsOf aM_sizeOf aM_number aM_passing vM_isKept vM_taped vM_leaked vM_keptAll vM_offAll vM_up vM_down vM_sharesUp vM_sharesDown vM_onUp vM_onDown vM_great vM_triedOff vM_triedLeaked vM_triedKept vM_fitting vM_firstSet vM_inAll vM_inAny vM_at vM_sort vM_from vM_value vM_fault u5 y1 (3 : Int32) u6 hu6) (cwV 2 hts gX8_anHour_X8_its rfl rfl rfl (by decide +kernel) ⟨Nat.le_of_ble_eq_true rfl, Nat.le_of_ble_eq_true rfl⟩) 0 [0, 1] [1, 2, 0, 0, 0, 0] [] (w_X8_anHour cyI cyJ cyZ cyB cyO aM aM_d aM_came aM_got aM_held aM_off aM_e aM_f aM_kept aM_found aM_tape aM_comesUp aM_comesDown aM_path aM_gets aM_gotNow aM_bitsOf aM_sizeOf aM_number aM_passing vM_isKept vM_taped vM_leaked vM_keptAll vM_offAll vM_up vM_down vM_sharesUp vM_sharesDown vM_onUp vM_onDown vM_great vM_triedOff vM_triedLeaked vM_triedKept vM_fitting vM_firstSet vM_inAll vM_inAny vM_at vM_sort vM_from vM_value vM_fault u5 cM_came cM_got cM_held cM_off) rfl rfl rfl rfl rfl (by decide +kernel) rfl rfl (Nat.le_of_ble_eq_true rfl) ⟨Nat.zero_le _, Nat.zero_le _⟩ dX8_anHour_41 (fun H locs hP hD hS => ?_)
        refine lv_aload_n hx hb dX8_anHour_44 rfl (lv_at hl 1 rfl) ?_
        refine va_get (D := D) (ci := 7) (v := .ref aM_held) (C := RX8) (T := TX8) (N := 43) hx hb hts in_X8 hown hK hP 0 rfl rfl 10 (by decide) q3 (fun _ h9 => h9) rfl dX8_anHour_45 ?_
        refine lv_iload_n hx hb dX8_anHour_48 rfl (lv_at hl 0 rfl) ?_
        obtain ⟨g7, h⟩ := gd_some h
        refine va_iald hx hb hK hP 4 0 rfl rfl g7 dX8_anHour_49 ?_
        refine lv_iadd hx hb dX8_anHour_50 ?_
        obtain ⟨u8, hu8, h⟩ := bd_some h
        refine cl_Vv (rest := []) F hK hP hD hS hA hl (t_X8_sets l D cyI cyJ cyZ cyB cyO aM aM_d aM_e aM_f aM_kept aM_found aM_tape aM_came aM_got aM_held aM_off aM_comesUp aM_comesDown aM_path aM_gets aM_gotNow aM_bitsOf aM_sizeOf aM_number aM_passing vM_isKept vM_taped vM_leaked vM_keptAll vM_offAll vM_up vM_down vM_sharesUp vM_sharesDown vM_onUp vM_onDown vM_great vM_triedOff vM_triedLeaked vM_triedKept vM_fitting vM_firstSet vM_inAll vM_inAny vM_at vM_sort vM_from vM_value vM_fault u5 y1 (3 : Int32) (u6 + (cM_held y1.toNatClampNeg)) u8 hu8) (cwV 3 hts gX8_anHour_X8_sets rfl rfl rfl (by decide +kernel) ⟨Nat.le_of_ble_eq_true rfl, Nat.le_of_ble_eq_true rfl⟩) 0 [0, 1] [1, 2, 0, 0, 0, 0] [] (w_X8_anHour cyI cyJ cyZ cyB cyO aM aM_d aM_came aM_got aM_held aM_off aM_e aM_f aM_kept aM_found aM_tape aM_comesUp aM_comesDown aM_path aM_gets aM_gotNow aM_bitsOf aM_sizeOf aM_number aM_passing vM_isKept vM_taped vM_leaked vM_keptAll vM_offAll vM_up vM_down vM_sharesUp vM_sharesDown vM_onUp vM_onDown vM_great vM_triedOff vM_triedLeaked vM_triedKept vM_fitting vM_firstSet vM_inAll vM_inAny vM_at vM_sort vM_from vM_value vM_fault u8 cM_came cM_got cM_held cM_off) rfl rfl rfl rfl rfl (by decide +kernel) rfl rfl (Nat.le_of_ble_eq_true rfl) ⟨Nat.zero_le _, Nat.zero_le _⟩ dX8_anHour_51 (fun H locs hP hD hS => ?_)
        refine lv_iinc (v := y1 + 1) (lv' := [(1, .int (y1 + 1)), (0, .ref aM)]) hx hb dX8_anHour_54 hl (k := 0) rfl rfl (by decide) rfl (fun ls hl => ?_)
        refine lv_goto (tgt := 6) hx hb dX8_anHour_57 (by decide) ?_
        exact ih6 (y1 + 1) vM_leaked vM_keptAll vM_offAll u8 cM_came cM_got cM_held cM_off _ _ _ hP hD hS (lv_sub hl [0, 1] rfl) h
  exact lp6 FU (0 : Int32) u1.1 u1.2.1 u1.2.2.1 cM_d u1.2.2.2.1 u1.2.2.2.2.1 u1.2.2.2.2.2.1 u1.2.2.2.2.2.2 _ _ _ hP hD hS (lv_sub hl [0, 1] rfl) h
/-! ===== X8_comes ===== -/
def w_X8_comes (cyI cyJ cyZ cyB cyO : ClassId) (aM aM_d aM_e aM_f aM_kept aM_found aM_tape aM_came aM_got aM_held aM_off aM_comesUp aM_comesDown aM_path aM_gets aM_gotNow aM_bitsOf aM_sizeOf aM_number aM_passing : Nat) (vM_isKept : Int32) (vM_taped : Int32) (vM_leaked : Int32) (vM_keptAll : Int32) (vM_offAll : Int32) (vM_up : Int64) (vM_down : Int64) (vM_sharesUp : Int64) (vM_sharesDown : Int64) (vM_onUp : Int64) (vM_onDown : Int64) (vM_great : Int32) (vM_triedOff : Int32) (vM_triedLeaked : Int32) (vM_triedKept : Int32) (vM_fitting : Int32) (vM_firstSet : Int32) (vM_inAll : Int32) (vM_inAny : Int32) (vM_at : Int32) (vM_sort : Int32) (vM_from : Int32) (vM_value : Int64) (vM_fault : Int32) (cM_d : Nat → Int32) : va_W := [(aM, .inr (7, [.ref aM_d, .ref aM_e, .ref aM_f, .ref aM_kept, .int vM_isKept, .ref aM_found, .ref aM_tape, .int vM_taped, .ref aM_came, .ref aM_got, .ref aM_held, .ref aM_off, .int vM_leaked, .int vM_keptAll, .int vM_offAll, .ref aM_comesUp, .ref aM_comesDown, .long vM_up, .long vM_down, .long vM_sharesUp, .long vM_sharesDown, .long vM_onUp, .long vM_onDown, .int vM_great, .ref aM_path, .ref aM_gets, .int vM_triedOff, .int vM_triedLeaked, .int vM_triedKept, .ref aM_gotNow, .int vM_fitting, .int vM_firstSet, .int vM_inAll, .int vM_inAny, .int vM_at, .int vM_sort, .int vM_from, .long vM_value, .int vM_fault, .ref aM_bitsOf, .ref aM_sizeOf, .ref aM_number, .ref aM_passing])), (aM_d, .inl (cyI, 64, .inl cM_d))]
set_option maxHeartbeats 4000000 in
set_option maxRecDepth 100000 in
theorem t_X8_comes (l : Launch) (D : va_G) (cyI cyJ cyZ cyB cyO : ClassId) (aM aM_d aM_e aM_f aM_kept aM_found aM_tape aM_came aM_got aM_held aM_off aM_comesUp aM_comesDown aM_path aM_gets aM_gotNow aM_bitsOf aM_sizeOf aM_number aM_passing : Nat) (vM_isKept : Int32) (vM_taped : Int32) (vM_leaked : Int32) (vM_keptAll : Int32) (vM_offAll : Int32) (vM_up : Int64) (vM_down : Int64) (vM_sharesUp : Int64) (vM_sharesDown : Int64) (vM_onUp : Int64) (vM_onDown : Int64) (vM_great : Int32) (vM_triedOff : Int32) (vM_triedLeaked : Int32) (vM_triedKept : Int32) (vM_fitting : Int32) (vM_firstSet : Int32) (vM_inAll : Int32) (vM_inAny : Int32) (vM_at : Int32) (vM_sort : Int32) (vM_from : Int32) (vM_value : Int64) (vM_fault : Int32) (cM_d : Nat → Int32) (x1 : Int32) (x2 : Int32) (x3 : Int32) (out : Int32 × (Nat → Int32)) (h : f_X8_comes x1 x2 x3 cM_d = some out) : Mi l yX8_comes wsX8_comes ({ frames := 1, cells := 0, slots := 0, locals := 23 } : Room) D (tyA cyI cyJ cyZ cyB cyO) [.ref aM, .int x1, .int x2, .int x3] (w_X8_comes cyI cyJ cyZ cyB cyO aM aM_d aM_e aM_f aM_kept aM_found aM_tape aM_came aM_got aM_held aM_off aM_comesUp aM_comesDown aM_path aM_gets aM_gotNow aM_bitsOf aM_sizeOf aM_number aM_passing vM_isKept vM_taped vM_leaked vM_keptAll vM_offAll vM_up vM_down vM_sharesUp vM_sharesDown vM_onUp vM_onDown vM_great vM_triedOff vM_triedLeaked vM_triedKept vM_fitting vM_firstSet vM_inAll vM_inAny vM_at vM_sort vM_from vM_value vM_fault cM_d) (w_X8_comes cyI cyJ cyZ cyB cyO aM aM_d aM_e aM_f aM_kept aM_found aM_tape aM_came aM_got aM_held aM_off aM_comesUp aM_comesDown aM_path aM_gets aM_gotNow aM_bitsOf aM_sizeOf aM_number aM_passing vM_isKept vM_taped vM_leaked vM_keptAll vM_offAll vM_up vM_down vM_sharesUp vM_sharesDown vM_onUp vM_onDown vM_great vM_triedOff vM_triedLeaked vM_triedKept vM_fitting vM_firstSet vM_inAll vM_inAny vM_at vM_sort vM_from vM_value vM_fault out.2) out.1 := by
  refine Mi.mk (cc := cX8_comes) (maxL := 5) (rt := .int) (own := RX8) (by decide) rfl rfl (Nat.le_of_ble_eq_true rfl) ?_
  intro p e s m args below meth c A Q F hK hP hD hA hret ls hl
  obtain ⟨hx, hb, hml, hown, hts⟩ := id F
  have hS : va_S A s.heap s.heap [] := va_S.rf
  have hl : lv_has ls 5 [(0, .ref aM), (1, .int x1), (2, .int x2), (3, .int x3)] := hl
  have in_X8 : ∀ w ∈ wsX80, w ∈ wsX8_comes := by decide +kernel
  have q1 := hts (Cond.fieldLink RX8 7 "ThirdFountainModel" "d" "[I") (List.mem_of_getElem? (i := 1) rfl)
  have q2 := hts (Cond.methodLink RX8 105 yX8_sets) (List.mem_of_getElem? (i := 2) rfl)
  unfold f_X8_comes at h
  refine lv_aload_n hx hb dX8_comes_0 rfl (lv_at hl 0 rfl) ?_
  refine va_get (D := D) (ci := 7) (v := .ref aM_d) (C := RX8) (T := TX8) (N := 43) hx hb hts in_X8 hown hK hP 0 rfl rfl 0 (by decide) q1 (fun _ h9 => h9) rfl dX8_comes_1 ?_
  refine lv_iconst (v := 0) hx hb dX8_comes_4 (by decide) ?_
  refine va_iald hx hb hK hP 1 0 rfl rfl (by unfold vp_in; decide) dX8_comes_5 ?_
  refine lv_topi (fun z1 ez1 => ?_)
  have h := nm_at ez1 h
  refine lv_istore (lv' := [(4, .int z1), (0, .ref aM), (1, .int x1), (2, .int x2), (3, .int x3)]) hx hb dX8_comes_6 hl (by decide) rfl (fun ls hl => ?_)
  refine lv_aload_n hx hb dX8_comes_8 rfl (lv_at hl 1 rfl) ?_
  refine va_get (D := D) (ci := 7) (v := .ref aM_d) (C := RX8) (T := TX8) (N := 43) hx hb hts in_X8 hown hK hP 0 rfl rfl 0 (by decide) q1 (fun _ h9 => h9) rfl dX8_comes_9 ?_
  refine lv_iconst (v := 0) hx hb dX8_comes_12 (by decide) ?_
  refine lv_dup2_11 hx hb dX8_comes_13 rfl rfl ?_
  refine va_iald hx hb hK hP 1 0 rfl rfl (by unfold vp_in; decide) dX8_comes_14 ?_
  refine lv_iconst (v := 1) hx hb dX8_comes_15 (by decide) ?_
  refine lv_iadd hx hb dX8_comes_16 ?_
  refine va_iast hx hb hK hP hD hS 1 0 rfl rfl (by unfold vp_in; decide) dX8_comes_17 (fun H locs hP hD hS => ?_)
  have hP : va_P D vwCl (w_X8_comes cyI cyJ cyZ cyB cyO aM aM_d aM_e aM_f aM_kept aM_found aM_tape aM_came aM_got aM_held aM_off aM_comesUp aM_comesDown aM_path aM_gets aM_gotNow aM_bitsOf aM_sizeOf aM_number aM_passing vM_isKept vM_taped vM_leaked vM_keptAll vM_offAll vM_up vM_down vM_sharesUp vM_sharesDown vM_onUp vM_onDown vM_great vM_triedOff vM_triedLeaked vM_triedKept vM_fitting vM_firstSet vM_inAll vM_inAny vM_at vM_sort vM_from vM_value vM_fault (upd cM_d (0 : Int32).toNatClampNeg ((cM_d (0 : Int32).toNatClampNeg) + (1 : Int32)))) H := hP
  have hD : va_D A (w_X8_comes cyI cyJ cyZ cyB cyO aM aM_d aM_e aM_f aM_kept aM_found aM_tape aM_came aM_got aM_held aM_off aM_comesUp aM_comesDown aM_path aM_gets aM_gotNow aM_bitsOf aM_sizeOf aM_number aM_passing vM_isKept vM_taped vM_leaked vM_keptAll vM_offAll vM_up vM_down vM_sharesUp vM_sharesDown vM_onUp vM_onDown vM_great vM_triedOff vM_triedLeaked vM_triedKept vM_fitting vM_firstSet vM_inAll vM_inAny vM_at vM_sort vM_from vM_value vM_fault (upd cM_d (0 : Int32).toNatClampNeg ((cM_d (0 : Int32).toNatClampNeg) + (1 : Int32)))) := hD
  refine lv_aload_n hx hb dX8_comes_18 rfl (lv_at hl 1 rfl) ?_
  refine lv_iload hx hb dX8_comes_19 (lv_at hl 0 rfl) ?_
  refine lv_iconst (v := 0) hx hb dX8_comes_21 (by decide) ?_
  refine lv_iload_n hx hb dX8_comes_22 rfl (lv_at hl 2 rfl) ?_
  obtain ⟨u2, hu2, h⟩ := bd_some h
  refine cl_Vv (rest := []) F hK hP hD hS hA hl (t_X8_sets l D cyI cyJ cyZ cyB cyO aM aM_d aM_e aM_f aM_kept aM_found aM_tape aM_came aM_got aM_held aM_off aM_comesUp aM_comesDown aM_path aM_gets aM_gotNow aM_bitsOf aM_sizeOf aM_number aM_passing vM_isKept vM_taped vM_leaked vM_keptAll vM_offAll vM_up vM_down vM_sharesUp vM_sharesDown vM_onUp vM_onDown vM_great vM_triedOff vM_triedLeaked vM_triedKept vM_fitting vM_firstSet vM_inAll vM_inAny vM_at vM_sort vM_from vM_value vM_fault (upd cM_d (0 : Int32).toNatClampNeg ((cM_d (0 : Int32).toNatClampNeg) + (1 : Int32))) z1 (0 : Int32) x1 u2 hu2) (cwV 3 hts gX8_comes_X8_sets rfl rfl rfl (by decide +kernel) ⟨Nat.le_of_ble_eq_true rfl, Nat.le_of_ble_eq_true rfl⟩) 0 [0, 1] [1, 2] [] (w_X8_comes cyI cyJ cyZ cyB cyO aM aM_d aM_e aM_f aM_kept aM_found aM_tape aM_came aM_got aM_held aM_off aM_comesUp aM_comesDown aM_path aM_gets aM_gotNow aM_bitsOf aM_sizeOf aM_number aM_passing vM_isKept vM_taped vM_leaked vM_keptAll vM_offAll vM_up vM_down vM_sharesUp vM_sharesDown vM_onUp vM_onDown vM_great vM_triedOff vM_triedLeaked vM_triedKept vM_fitting vM_firstSet vM_inAll vM_inAny vM_at vM_sort vM_from vM_value vM_fault u2) rfl rfl rfl rfl rfl (by decide +kernel) rfl rfl (Nat.le_of_ble_eq_true rfl) ⟨Nat.zero_le _, Nat.zero_le _⟩ dX8_comes_23 (fun H locs hP hD hS => ?_)
  refine lv_aload_n hx hb dX8_comes_26 rfl (lv_at hl 1 rfl) ?_
  refine lv_iload hx hb dX8_comes_27 (lv_at hl 0 rfl) ?_
  refine lv_iconst (v := 1) hx hb dX8_comes_29 (by decide) ?_
  refine lv_iload_n hx hb dX8_comes_30 rfl (lv_at hl 3 rfl) ?_
  obtain ⟨u3, hu3, h⟩ := bd_some h
  refine cl_Vv (rest := []) F hK hP hD hS hA hl (t_X8_sets l D cyI cyJ cyZ cyB cyO aM aM_d aM_e aM_f aM_kept aM_found aM_tape aM_came aM_got aM_held aM_off aM_comesUp aM_comesDown aM_path aM_gets aM_gotNow aM_bitsOf aM_sizeOf aM_number aM_passing vM_isKept vM_taped vM_leaked vM_keptAll vM_offAll vM_up vM_down vM_sharesUp vM_sharesDown vM_onUp vM_onDown vM_great vM_triedOff vM_triedLeaked vM_triedKept vM_fitting vM_firstSet vM_inAll vM_inAny vM_at vM_sort vM_from vM_value vM_fault u2 z1 (1 : Int32) x2 u3 hu3) (cwV 3 hts gX8_comes_X8_sets rfl rfl rfl (by decide +kernel) ⟨Nat.le_of_ble_eq_true rfl, Nat.le_of_ble_eq_true rfl⟩) 0 [0, 1] [1, 2] [] (w_X8_comes cyI cyJ cyZ cyB cyO aM aM_d aM_e aM_f aM_kept aM_found aM_tape aM_came aM_got aM_held aM_off aM_comesUp aM_comesDown aM_path aM_gets aM_gotNow aM_bitsOf aM_sizeOf aM_number aM_passing vM_isKept vM_taped vM_leaked vM_keptAll vM_offAll vM_up vM_down vM_sharesUp vM_sharesDown vM_onUp vM_onDown vM_great vM_triedOff vM_triedLeaked vM_triedKept vM_fitting vM_firstSet vM_inAll vM_inAny vM_at vM_sort vM_from vM_value vM_fault u3) rfl rfl rfl rfl rfl (by decide +kernel) rfl rfl (Nat.le_of_ble_eq_true rfl) ⟨Nat.zero_le _, Nat.zero_le _⟩ dX8_comes_31 (fun H locs hP hD hS => ?_)
  refine lv_aload_n hx hb dX8_comes_34 rfl (lv_at hl 1 rfl) ?_
  refine lv_iload hx hb dX8_comes_35 (lv_at hl 0 rfl) ?_
  refine lv_iconst (v := 2) hx hb dX8_comes_37 (by decide) ?_
  refine lv_iload_n hx hb dX8_comes_38 rfl (lv_at hl 4 rfl) ?_
  obtain ⟨u4, hu4, h⟩ := bd_some h
  refine cl_Vv (rest := []) F hK hP hD hS hA hl (t_X8_sets l D cyI cyJ cyZ cyB cyO aM aM_d aM_e aM_f aM_kept aM_found aM_tape aM_came aM_got aM_held aM_off aM_comesUp aM_comesDown aM_path aM_gets aM_gotNow aM_bitsOf aM_sizeOf aM_number aM_passing vM_isKept vM_taped vM_leaked vM_keptAll vM_offAll vM_up vM_down vM_sharesUp vM_sharesDown vM_onUp vM_onDown vM_great vM_triedOff vM_triedLeaked vM_triedKept vM_fitting vM_firstSet vM_inAll vM_inAny vM_at vM_sort vM_from vM_value vM_fault u3 z1 (2 : Int32) x3 u4 hu4) (cwV 3 hts gX8_comes_X8_sets rfl rfl rfl (by decide +kernel) ⟨Nat.le_of_ble_eq_true rfl, Nat.le_of_ble_eq_true rfl⟩) 0 [0, 1] [1, 2] [] (w_X8_comes cyI cyJ cyZ cyB cyO aM aM_d aM_e aM_f aM_kept aM_found aM_tape aM_came aM_got aM_held aM_off aM_comesUp aM_comesDown aM_path aM_gets aM_gotNow aM_bitsOf aM_sizeOf aM_number aM_passing vM_isKept vM_taped vM_leaked vM_keptAll vM_offAll vM_up vM_down vM_sharesUp vM_sharesDown vM_onUp vM_onDown vM_great vM_triedOff vM_triedLeaked vM_triedKept vM_fitting vM_firstSet vM_inAll vM_inAny vM_at vM_sort vM_from vM_value vM_fault u4) rfl rfl rfl rfl rfl (by decide +kernel) rfl rfl (Nat.le_of_ble_eq_true rfl) ⟨Nat.zero_le _, Nat.zero_le _⟩ dX8_comes_39 (fun H locs hP hD hS => ?_)
  refine lv_aload_n hx hb dX8_comes_42 rfl (lv_at hl 1 rfl) ?_
  refine lv_iload hx hb dX8_comes_43 (lv_at hl 0 rfl) ?_
  refine lv_iconst (v := 3) hx hb dX8_comes_45 (by decide) ?_
  refine lv_iconst (v := 0) hx hb dX8_comes_46 (by decide) ?_
  obtain ⟨u5, hu5, h⟩ := bd_some h
  refine cl_Vv (rest := []) F hK hP hD hS hA hl (t_X8_sets l D cyI cyJ cyZ cyB cyO aM aM_d aM_e aM_f aM_kept aM_found aM_tape aM_came aM_got aM_held aM_off aM_comesUp aM_comesDown aM_path aM_gets aM_gotNow aM_bitsOf aM_sizeOf aM_number aM_passing vM_isKept vM_taped vM_leaked vM_keptAll vM_offAll vM_up vM_down vM_sharesUp vM_sharesDown vM_onUp vM_onDown vM_great vM_triedOff vM_triedLeaked vM_triedKept vM_fitting vM_firstSet vM_inAll vM_inAny vM_at vM_sort vM_from vM_value vM_fault u4 z1 (3 : Int32) (0 : Int32) u5 hu5) (cwV 3 hts gX8_comes_X8_sets rfl rfl rfl (by decide +kernel) ⟨Nat.le_of_ble_eq_true rfl, Nat.le_of_ble_eq_true rfl⟩) 0 [0, 1] [1, 2] [] (w_X8_comes cyI cyJ cyZ cyB cyO aM aM_d aM_e aM_f aM_kept aM_found aM_tape aM_came aM_got aM_held aM_off aM_comesUp aM_comesDown aM_path aM_gets aM_gotNow aM_bitsOf aM_sizeOf aM_number aM_passing vM_isKept vM_taped vM_leaked vM_keptAll vM_offAll vM_up vM_down vM_sharesUp vM_sharesDown vM_onUp vM_onDown vM_great vM_triedOff vM_triedLeaked vM_triedKept vM_fitting vM_firstSet vM_inAll vM_inAny vM_at vM_sort vM_from vM_value vM_fault u5) rfl rfl rfl rfl rfl (by decide +kernel) rfl rfl (Nat.le_of_ble_eq_true rfl) ⟨Nat.zero_le _, Nat.zero_le _⟩ dX8_comes_47 (fun H locs hP hD hS => ?_)
  refine lv_aload_n hx hb dX8_comes_50 rfl (lv_at hl 1 rfl) ?_
  refine lv_iload hx hb dX8_comes_51 (lv_at hl 0 rfl) ?_
  refine lv_iconst (v := 4) hx hb dX8_comes_53 (by decide) ?_
  refine lv_iconst (v := 0) hx hb dX8_comes_54 (by decide) ?_
  obtain ⟨u6, hu6, h⟩ := bd_some h
  refine cl_Vv (rest := []) F hK hP hD hS hA hl (t_X8_sets l D cyI cyJ cyZ cyB cyO aM aM_d aM_e aM_f aM_kept aM_found aM_tape aM_came aM_got aM_held aM_off aM_comesUp aM_comesDown aM_path aM_gets aM_gotNow aM_bitsOf aM_sizeOf aM_number aM_passing vM_isKept vM_taped vM_leaked vM_keptAll vM_offAll vM_up vM_down vM_sharesUp vM_sharesDown vM_onUp vM_onDown vM_great vM_triedOff vM_triedLeaked vM_triedKept vM_fitting vM_firstSet vM_inAll vM_inAny vM_at vM_sort vM_from vM_value vM_fault u5 z1 (4 : Int32) (0 : Int32) u6 hu6) (cwV 3 hts gX8_comes_X8_sets rfl rfl rfl (by decide +kernel) ⟨Nat.le_of_ble_eq_true rfl, Nat.le_of_ble_eq_true rfl⟩) 0 [0, 1] [1, 2] [] (w_X8_comes cyI cyJ cyZ cyB cyO aM aM_d aM_e aM_f aM_kept aM_found aM_tape aM_came aM_got aM_held aM_off aM_comesUp aM_comesDown aM_path aM_gets aM_gotNow aM_bitsOf aM_sizeOf aM_number aM_passing vM_isKept vM_taped vM_leaked vM_keptAll vM_offAll vM_up vM_down vM_sharesUp vM_sharesDown vM_onUp vM_onDown vM_great vM_triedOff vM_triedLeaked vM_triedKept vM_fitting vM_firstSet vM_inAll vM_inAny vM_at vM_sort vM_from vM_value vM_fault u6) rfl rfl rfl rfl rfl (by decide +kernel) rfl rfl (Nat.le_of_ble_eq_true rfl) ⟨Nat.zero_le _, Nat.zero_le _⟩ dX8_comes_55 (fun H locs hP hD hS => ?_)
  refine lv_iload hx hb dX8_comes_58 (lv_at hl 0 rfl) ?_
  obtain rfl := Option.some.inj h
  exact hret _ _ _ _ _ hP hD hS dX8_comes_60 rfl rfl
/-! ===== X8_basin ===== -/
def w_X8_basin (cyI cyJ cyZ cyB cyO : ClassId) (aM aM_d aM_found aM_e aM_f aM_kept aM_tape aM_came aM_got aM_held aM_off aM_comesUp aM_comesDown aM_path aM_gets aM_gotNow aM_bitsOf aM_sizeOf aM_number aM_passing : Nat) (vM_isKept : Int32) (vM_taped : Int32) (vM_leaked : Int32) (vM_keptAll : Int32) (vM_offAll : Int32) (vM_up : Int64) (vM_down : Int64) (vM_sharesUp : Int64) (vM_sharesDown : Int64) (vM_onUp : Int64) (vM_onDown : Int64) (vM_great : Int32) (vM_triedOff : Int32) (vM_triedLeaked : Int32) (vM_triedKept : Int32) (vM_fitting : Int32) (vM_firstSet : Int32) (vM_inAll : Int32) (vM_inAny : Int32) (vM_at : Int32) (vM_sort : Int32) (vM_from : Int32) (vM_value : Int64) (vM_fault : Int32) (cM_d : Nat → Int32) (cM_found : Nat → Int32) : va_W := [(aM, .inr (7, [.ref aM_d, .ref aM_e, .ref aM_f, .ref aM_kept, .int vM_isKept, .ref aM_found, .ref aM_tape, .int vM_taped, .ref aM_came, .ref aM_got, .ref aM_held, .ref aM_off, .int vM_leaked, .int vM_keptAll, .int vM_offAll, .ref aM_comesUp, .ref aM_comesDown, .long vM_up, .long vM_down, .long vM_sharesUp, .long vM_sharesDown, .long vM_onUp, .long vM_onDown, .int vM_great, .ref aM_path, .ref aM_gets, .int vM_triedOff, .int vM_triedLeaked, .int vM_triedKept, .ref aM_gotNow, .int vM_fitting, .int vM_firstSet, .int vM_inAll, .int vM_inAny, .int vM_at, .int vM_sort, .int vM_from, .long vM_value, .int vM_fault, .ref aM_bitsOf, .ref aM_sizeOf, .ref aM_number, .ref aM_passing])), (aM_d, .inl (cyI, 64, .inl cM_d)), (aM_found, .inl (cyI, 7, .inl cM_found))]
set_option maxHeartbeats 4000000 in
set_option maxRecDepth 100000 in
theorem t_X8_basin (l : Launch) (D : va_G) (cyI cyJ cyZ cyB cyO : ClassId) (aM aM_d aM_found aM_e aM_f aM_kept aM_tape aM_came aM_got aM_held aM_off aM_comesUp aM_comesDown aM_path aM_gets aM_gotNow aM_bitsOf aM_sizeOf aM_number aM_passing : Nat) (vM_isKept : Int32) (vM_taped : Int32) (vM_leaked : Int32) (vM_keptAll : Int32) (vM_offAll : Int32) (vM_up : Int64) (vM_down : Int64) (vM_sharesUp : Int64) (vM_sharesDown : Int64) (vM_onUp : Int64) (vM_onDown : Int64) (vM_great : Int32) (vM_triedOff : Int32) (vM_triedLeaked : Int32) (vM_triedKept : Int32) (vM_fitting : Int32) (vM_firstSet : Int32) (vM_inAll : Int32) (vM_inAny : Int32) (vM_at : Int32) (vM_sort : Int32) (vM_from : Int32) (vM_value : Int64) (vM_fault : Int32) (cM_d : Nat → Int32) (cM_found : Nat → Int32) (x1 : Int32) (x2 : Int32) (out : Int32 × (Nat → Int32) × (Nat → Int32)) (h : f_X8_basin x1 x2 cM_d cM_found = some out) : Mi l yX8_basin wsX8_basin ({ frames := 2, cells := 0, slots := 0, locals := 47 } : Room) D (tyA cyI cyJ cyZ cyB cyO) [.ref aM, .int x1, .int x2] (w_X8_basin cyI cyJ cyZ cyB cyO aM aM_d aM_found aM_e aM_f aM_kept aM_tape aM_came aM_got aM_held aM_off aM_comesUp aM_comesDown aM_path aM_gets aM_gotNow aM_bitsOf aM_sizeOf aM_number aM_passing vM_isKept vM_taped vM_leaked vM_keptAll vM_offAll vM_up vM_down vM_sharesUp vM_sharesDown vM_onUp vM_onDown vM_great vM_triedOff vM_triedLeaked vM_triedKept vM_fitting vM_firstSet vM_inAll vM_inAny vM_at vM_sort vM_from vM_value vM_fault cM_d cM_found) (w_X8_basin cyI cyJ cyZ cyB cyO aM aM_d aM_found aM_e aM_f aM_kept aM_tape aM_came aM_got aM_held aM_off aM_comesUp aM_comesDown aM_path aM_gets aM_gotNow aM_bitsOf aM_sizeOf aM_number aM_passing vM_isKept vM_taped vM_leaked vM_keptAll vM_offAll vM_up vM_down vM_sharesUp vM_sharesDown vM_onUp vM_onDown vM_great vM_triedOff vM_triedLeaked vM_triedKept vM_fitting vM_firstSet vM_inAll vM_inAny vM_at vM_sort vM_from vM_value vM_fault out.2.1 out.2.2) out.1 := by
  refine Mi.mk (cc := cX8_basin) (maxL := 4) (rt := .int) (own := RX8) (by decide) rfl rfl (Nat.le_of_ble_eq_true rfl) ?_
  intro p e s m args below meth c A Q F hK hP hD hA hret ls hl
  obtain ⟨hx, hb, hml, hown, hts⟩ := id F
  have hS : va_S A s.heap s.heap [] := va_S.rf
  have hl : lv_has ls 4 [(0, .ref aM), (1, .int x1), (2, .int x2)] := hl
  have in_X8 : ∀ w ∈ wsX80, w ∈ wsX8_basin := by decide +kernel
  have q1 := hts (Cond.fieldLink RX8 7 "ThirdFountainModel" "d" "[I") (List.mem_of_getElem? (i := 1) rfl)
  have q2 := hts (Cond.constantLong RX8 113 (6)) (List.mem_of_getElem? (i := 2) rfl)
  have q8 := hts (Cond.methodLink RX8 70 yX8_in) (List.mem_of_getElem? (i := 8) rfl)
  have q11 := hts (Cond.methodLink RX8 115 yX8_finds) (List.mem_of_getElem? (i := 11) rfl)
  have q17 := hts (Cond.methodLink RX8 118 yX8_comes) (List.mem_of_getElem? (i := 17) rfl)
  have q3 := hts (Cond.methodLink RX8 109 yX8_isBasin) (List.mem_of_getElem? (i := 3) rfl)
  unfold f_X8_basin at h
  refine lv_aload_n hx hb dX8_basin_0 rfl (lv_at hl 0 rfl) ?_
  refine va_get (D := D) (ci := 7) (v := .ref aM_d) (C := RX8) (T := TX8) (N := 43) hx hb hts in_X8 hown hK hP 0 rfl rfl 0 (by decide) q1 (fun _ h9 => h9) rfl dX8_basin_1 ?_
  refine lv_iconst (v := 0) hx hb dX8_basin_4 (by decide) ?_
  refine va_iald hx hb hK hP 1 0 rfl rfl (by unfold vp_in; decide) dX8_basin_5 ?_
  have j27 : ∀ (t0 : Int32) (cM_d : Nat → Int32) (cM_found : Nat → Int32) (H : Heap) (locs : List Loc) (ls : Array Slot), va_P D vwCl (w_X8_basin cyI cyJ cyZ cyB cyO aM aM_d aM_found aM_e aM_f aM_kept aM_tape aM_came aM_got aM_held aM_off aM_comesUp aM_comesDown aM_path aM_gets aM_gotNow aM_bitsOf aM_sizeOf aM_number aM_passing vM_isKept vM_taped vM_leaked vM_keptAll vM_offAll vM_up vM_down vM_sharesUp vM_sharesDown vM_onUp vM_onDown vM_great vM_triedOff vM_triedLeaked vM_triedKept vM_fitting vM_firstSet vM_inAll vM_inAny vM_at vM_sort vM_from vM_value vM_fault cM_d cM_found) H → va_D A (w_X8_basin cyI cyJ cyZ cyB cyO aM aM_d aM_found aM_e aM_f aM_kept aM_tape aM_came aM_got aM_held aM_off aM_comesUp aM_comesDown aM_path aM_gets aM_gotNow aM_bitsOf aM_sizeOf aM_number aM_passing vM_isKept vM_taped vM_leaked vM_keptAll vM_offAll vM_up vM_down vM_sharesUp vM_sharesDown vM_onUp vM_onDown vM_great vM_triedOff vM_triedLeaked vM_triedKept vM_fitting vM_firstSet vM_inAll vM_inAny vM_at vM_sort vM_from vM_value vM_fault cM_d cM_found) → va_S A s.heap H locs → lv_has ls 4 [(0, .ref aM), (1, .int x1), (2, .int x2)] → f_X8_basin_J27 x1 x2 t0 cM_d cM_found = some out → W p l e ({ frames := 2, cells := 0, slots := 0, locals := 47 } : Room) s m args below meth c H locs 0 0 Q (F0 m 27 ls [.int t0]) := by
    intro t0 cM_d cM_found H locs ls hP hD hS hl h
    unfold f_X8_basin_J27 at h
    refine lv_istore_n (lv' := [(3, .int t0), (0, .ref aM), (1, .int x1), (2, .int x2)]) hx hb dX8_basin_27 rfl hl (by decide) rfl (fun ls hl => ?_)
    refine lv_iload_n hx hb dX8_basin_28 rfl (lv_at hl 2 rfl) ?_
    refine lv_i2l hx hb dX8_basin_29 rfl ?_
    refine lv_lconst (v := 0) hx hb dX8_basin_30 (by decide) ?_
    refine lv_ldc2 (v := 6) hx hb hown q2 dX8_basin_31 ?_
    obtain ⟨u1, hu1, h⟩ := bd_some h
    refine cl_Si (rest := []) F hK hP hD hS hA hl (t_X8_in l D cyI cyJ cyZ cyB cyO x1.toInt64 (0 : Int64) (6 : Int64) u1 hu1) (va_cwS 3 hts gX8_basin_X8_in rfl rfl rfl (by decide +kernel) ⟨Nat.le_of_ble_eq_true rfl, Nat.le_of_ble_eq_true rfl⟩) [] [0, 0, 0] [] (w_X8_basin cyI cyJ cyZ cyB cyO aM aM_d aM_found aM_e aM_f aM_kept aM_tape aM_came aM_got aM_held aM_off aM_comesUp aM_comesDown aM_path aM_gets aM_gotNow aM_bitsOf aM_sizeOf aM_number aM_passing vM_isKept vM_taped vM_leaked vM_keptAll vM_offAll vM_up vM_down vM_sharesUp vM_sharesDown vM_onUp vM_onDown vM_great vM_triedOff vM_triedLeaked vM_triedKept vM_fitting vM_firstSet vM_inAll vM_inAny vM_at vM_sort vM_from vM_value vM_fault cM_d cM_found) rfl rfl rfl (by decide +kernel) rfl rfl (Nat.le_of_ble_eq_true rfl) ⟨Nat.zero_le _, Nat.zero_le _⟩ dX8_basin_34 (fun H locs hP hD hS => ?_)
    refine lv_if_eq (tgt := 44) hx hb dX8_basin_37 (by decide) (fun c2 => ?_) (fun c2 => ?_)
    · have h := br_pos c2 h
      refine lv_aload_n hx hb dX8_basin_44 rfl (lv_at hl 1 rfl) ?_
      refine lv_iconst (v := 0) hx hb dX8_basin_45 (by decide) ?_
      obtain ⟨u3, hu3, h⟩ := bd_some h
      refine cl_Vi (rest := []) F hK hP hD hS hA hl (t_X8_finds l D cyI cyJ cyZ cyB cyO aM aM_found aM_d aM_e aM_f aM_kept aM_tape aM_came aM_got aM_held aM_off aM_comesUp aM_comesDown aM_path aM_gets aM_gotNow aM_bitsOf aM_sizeOf aM_number aM_passing vM_isKept vM_taped vM_leaked vM_keptAll vM_offAll vM_up vM_down vM_sharesUp vM_sharesDown vM_onUp vM_onDown vM_great vM_triedOff vM_triedLeaked vM_triedKept vM_fitting vM_firstSet vM_inAll vM_inAny vM_at vM_sort vM_from vM_value vM_fault cM_found (0 : Int32) u3 hu3) (cwV 1 hts gX8_basin_X8_finds rfl rfl rfl (by decide +kernel) ⟨Nat.le_of_ble_eq_true rfl, Nat.le_of_ble_eq_true rfl⟩) 0 [0, 2] [1, 0, 2] [] (w_X8_basin cyI cyJ cyZ cyB cyO aM aM_d aM_found aM_e aM_f aM_kept aM_tape aM_came aM_got aM_held aM_off aM_comesUp aM_comesDown aM_path aM_gets aM_gotNow aM_bitsOf aM_sizeOf aM_number aM_passing vM_isKept vM_taped vM_leaked vM_keptAll vM_offAll vM_up vM_down vM_sharesUp vM_sharesDown vM_onUp vM_onDown vM_great vM_triedOff vM_triedLeaked vM_triedKept vM_fitting vM_firstSet vM_inAll vM_inAny vM_at vM_sort vM_from vM_value vM_fault cM_d u3.2) rfl rfl rfl rfl rfl (by decide +kernel) rfl rfl (Nat.le_of_ble_eq_true rfl) ⟨Nat.zero_le _, Nat.zero_le _⟩ dX8_basin_46 (fun H locs hP hD hS => ?_)
      obtain rfl := Option.some.inj h
      exact hret _ _ _ _ _ hP hD hS dX8_basin_49 rfl rfl
    · have h := br_neg c2 h
      refine lv_iload_n hx hb dX8_basin_40 rfl (lv_at hl 0 rfl) ?_
      refine lv_if_ne (tgt := 50) hx hb dX8_basin_41 (by decide) (fun c4 => ?_) (fun c4 => ?_)
      · have h := br_neg c4 h
        refine lv_aload_n hx hb dX8_basin_50 rfl (lv_at hl 1 rfl) ?_
        refine va_get (D := D) (ci := 7) (v := .ref aM_d) (C := RX8) (T := TX8) (N := 43) hx hb hts in_X8 hown hK hP 0 rfl rfl 0 (by decide) q1 (fun _ h9 => h9) rfl dX8_basin_51 ?_
        refine lv_iconst (v := 0) hx hb dX8_basin_54 (by decide) ?_
        refine va_iald hx hb hK hP 1 0 rfl rfl (by unfold vp_in; decide) dX8_basin_55 ?_
        refine lv_bipush (v := 10) hx hb dX8_basin_56 (by decide) ?_
        refine lv_icmp_ne (tgt := 69) hx hb dX8_basin_58 (by decide) (fun c5 => ?_) (fun c5 => ?_)
        · have h := br_neg c5 h
          refine lv_aload_n hx hb dX8_basin_69 rfl (lv_at hl 1 rfl) ?_
          refine lv_iload_n hx hb dX8_basin_70 rfl (lv_at hl 2 rfl) ?_
          refine lv_iload_n hx hb dX8_basin_71 rfl (lv_at hl 3 rfl) ?_
          refine lv_iconst (v := 1) hx hb dX8_basin_72 (by decide) ?_
          obtain ⟨u6, hu6, h⟩ := bd_some h
          refine cl_Vi (rest := []) F hK hP hD hS hA hl (t_X8_comes l D cyI cyJ cyZ cyB cyO aM aM_d aM_e aM_f aM_kept aM_found aM_tape aM_came aM_got aM_held aM_off aM_comesUp aM_comesDown aM_path aM_gets aM_gotNow aM_bitsOf aM_sizeOf aM_number aM_passing vM_isKept vM_taped vM_leaked vM_keptAll vM_offAll vM_up vM_down vM_sharesUp vM_sharesDown vM_onUp vM_onDown vM_great vM_triedOff vM_triedLeaked vM_triedKept vM_fitting vM_firstSet vM_inAll vM_inAny vM_at vM_sort vM_from vM_value vM_fault cM_d x1 x2 (1 : Int32) u6 hu6) (cwV 3 hts gX8_basin_X8_comes rfl rfl rfl (by decide +kernel) ⟨Nat.le_of_ble_eq_true rfl, Nat.le_of_ble_eq_true rfl⟩) 0 [0, 1] [1, 2, 0] [] (w_X8_basin cyI cyJ cyZ cyB cyO aM aM_d aM_found aM_e aM_f aM_kept aM_tape aM_came aM_got aM_held aM_off aM_comesUp aM_comesDown aM_path aM_gets aM_gotNow aM_bitsOf aM_sizeOf aM_number aM_passing vM_isKept vM_taped vM_leaked vM_keptAll vM_offAll vM_up vM_down vM_sharesUp vM_sharesDown vM_onUp vM_onDown vM_great vM_triedOff vM_triedLeaked vM_triedKept vM_fitting vM_firstSet vM_inAll vM_inAny vM_at vM_sort vM_from vM_value vM_fault u6.2 cM_found) rfl rfl rfl rfl rfl (by decide +kernel) rfl rfl (Nat.le_of_ble_eq_true rfl) ⟨Nat.zero_le _, Nat.zero_le _⟩ dX8_basin_73 (fun H locs hP hD hS => ?_)
          obtain rfl := Option.some.inj h
          exact hret _ _ _ _ _ hP hD hS dX8_basin_76 rfl rfl
        · have h := br_pos c5 h
          refine lv_aload_n hx hb dX8_basin_61 rfl (lv_at hl 1 rfl) ?_
          refine lv_iconst (v := 1) hx hb dX8_basin_62 (by decide) ?_
          obtain ⟨u7, hu7, h⟩ := bd_some h
          refine cl_Vi (rest := []) F hK hP hD hS hA hl (t_X8_finds l D cyI cyJ cyZ cyB cyO aM aM_found aM_d aM_e aM_f aM_kept aM_tape aM_came aM_got aM_held aM_off aM_comesUp aM_comesDown aM_path aM_gets aM_gotNow aM_bitsOf aM_sizeOf aM_number aM_passing vM_isKept vM_taped vM_leaked vM_keptAll vM_offAll vM_up vM_down vM_sharesUp vM_sharesDown vM_onUp vM_onDown vM_great vM_triedOff vM_triedLeaked vM_triedKept vM_fitting vM_firstSet vM_inAll vM_inAny vM_at vM_sort vM_from vM_value vM_fault cM_found (1 : Int32) u7 hu7) (cwV 1 hts gX8_basin_X8_finds rfl rfl rfl (by decide +kernel) ⟨Nat.le_of_ble_eq_true rfl, Nat.le_of_ble_eq_true rfl⟩) 0 [0, 2] [1, 0, 2] [] (w_X8_basin cyI cyJ cyZ cyB cyO aM aM_d aM_found aM_e aM_f aM_kept aM_tape aM_came aM_got aM_held aM_off aM_comesUp aM_comesDown aM_path aM_gets aM_gotNow aM_bitsOf aM_sizeOf aM_number aM_passing vM_isKept vM_taped vM_leaked vM_keptAll vM_offAll vM_up vM_down vM_sharesUp vM_sharesDown vM_onUp vM_onDown vM_great vM_triedOff vM_triedLeaked vM_triedKept vM_fitting vM_firstSet vM_inAll vM_inAny vM_at vM_sort vM_from vM_value vM_fault cM_d u7.2) rfl rfl rfl rfl rfl (by decide +kernel) rfl rfl (Nat.le_of_ble_eq_true rfl) ⟨Nat.zero_le _, Nat.zero_le _⟩ dX8_basin_63 (fun H locs hP hD hS => ?_)
          refine lv_goto (tgt := 76) hx hb dX8_basin_66 (by decide) ?_
          obtain rfl := Option.some.inj h
          exact hret _ _ _ _ _ hP hD hS dX8_basin_76 rfl rfl
      · have h := br_pos c4 h
        refine lv_aload_n hx hb dX8_basin_44 rfl (lv_at hl 1 rfl) ?_
        refine lv_iconst (v := 0) hx hb dX8_basin_45 (by decide) ?_
        obtain ⟨u8, hu8, h⟩ := bd_some h
        refine cl_Vi (rest := []) F hK hP hD hS hA hl (t_X8_finds l D cyI cyJ cyZ cyB cyO aM aM_found aM_d aM_e aM_f aM_kept aM_tape aM_came aM_got aM_held aM_off aM_comesUp aM_comesDown aM_path aM_gets aM_gotNow aM_bitsOf aM_sizeOf aM_number aM_passing vM_isKept vM_taped vM_leaked vM_keptAll vM_offAll vM_up vM_down vM_sharesUp vM_sharesDown vM_onUp vM_onDown vM_great vM_triedOff vM_triedLeaked vM_triedKept vM_fitting vM_firstSet vM_inAll vM_inAny vM_at vM_sort vM_from vM_value vM_fault cM_found (0 : Int32) u8 hu8) (cwV 1 hts gX8_basin_X8_finds rfl rfl rfl (by decide +kernel) ⟨Nat.le_of_ble_eq_true rfl, Nat.le_of_ble_eq_true rfl⟩) 0 [0, 2] [1, 0, 2] [] (w_X8_basin cyI cyJ cyZ cyB cyO aM aM_d aM_found aM_e aM_f aM_kept aM_tape aM_came aM_got aM_held aM_off aM_comesUp aM_comesDown aM_path aM_gets aM_gotNow aM_bitsOf aM_sizeOf aM_number aM_passing vM_isKept vM_taped vM_leaked vM_keptAll vM_offAll vM_up vM_down vM_sharesUp vM_sharesDown vM_onUp vM_onDown vM_great vM_triedOff vM_triedLeaked vM_triedKept vM_fitting vM_firstSet vM_inAll vM_inAny vM_at vM_sort vM_from vM_value vM_fault cM_d u8.2) rfl rfl rfl rfl rfl (by decide +kernel) rfl rfl (Nat.le_of_ble_eq_true rfl) ⟨Nat.zero_le _, Nat.zero_le _⟩ dX8_basin_46 (fun H locs hP hD hS => ?_)
        obtain rfl := Option.some.inj h
        exact hret _ _ _ _ _ hP hD hS dX8_basin_49 rfl rfl
  refine lv_if_ne (tgt := 22) hx hb dX8_basin_6 (by decide) (fun c9 => ?_) (fun c9 => ?_)
  · have h := br_neg c9 h
    refine lv_aload_n hx hb dX8_basin_22 rfl (lv_at hl 0 rfl) ?_
    refine lv_iload_n hx hb dX8_basin_23 rfl (lv_at hl 2 rfl) ?_
    obtain ⟨u10, hu10, h⟩ := bd_some h
    refine cl_Vi (rest := []) F hK hP hD hS hA hl (t_X8_isBasin l D cyI cyJ cyZ cyB cyO aM aM_d aM_e aM_f aM_kept aM_found aM_tape aM_came aM_got aM_held aM_off aM_comesUp aM_comesDown aM_path aM_gets aM_gotNow aM_bitsOf aM_sizeOf aM_number aM_passing vM_isKept vM_taped vM_leaked vM_keptAll vM_offAll vM_up vM_down vM_sharesUp vM_sharesDown vM_onUp vM_onDown vM_great vM_triedOff vM_triedLeaked vM_triedKept vM_fitting vM_firstSet vM_inAll vM_inAny vM_at vM_sort vM_from vM_value vM_fault cM_d x2 u10 hu10) (cwV 1 hts gX8_basin_X8_isBasin rfl rfl rfl (by decide +kernel) ⟨Nat.le_of_ble_eq_true rfl, Nat.le_of_ble_eq_true rfl⟩) 0 [0, 1] [1, 2, 0] [] (w_X8_basin cyI cyJ cyZ cyB cyO aM aM_d aM_found aM_e aM_f aM_kept aM_tape aM_came aM_got aM_held aM_off aM_comesUp aM_comesDown aM_path aM_gets aM_gotNow aM_bitsOf aM_sizeOf aM_number aM_passing vM_isKept vM_taped vM_leaked vM_keptAll vM_offAll vM_up vM_down vM_sharesUp vM_sharesDown vM_onUp vM_onDown vM_great vM_triedOff vM_triedLeaked vM_triedKept vM_fitting vM_firstSet vM_inAll vM_inAny vM_at vM_sort vM_from vM_value vM_fault cM_d cM_found) rfl rfl rfl rfl rfl (by decide +kernel) rfl rfl (Nat.le_of_ble_eq_true rfl) ⟨Nat.zero_le _, Nat.zero_le _⟩ dX8_basin_24 (fun H locs hP hD hS => ?_)
    exact j27 u10 cM_d cM_found _ _ _ hP hD hS (lv_sub hl [0, 1, 2] rfl) h
  · have h := br_pos c9 h
    refine lv_iload_n hx hb dX8_basin_9 rfl (lv_at hl 2 rfl) ?_
    refine lv_iconst (v := -1) hx hb dX8_basin_10 (by decide) ?_
    refine lv_icmp_ne (tgt := 18) hx hb dX8_basin_11 (by decide) (fun c11 => ?_) (fun c11 => ?_)
    · have h := br_neg c11 h
      refine lv_iconst (v := 0) hx hb dX8_basin_18 (by decide) ?_
      refine lv_goto (tgt := 27) hx hb dX8_basin_19 (by decide) ?_
      exact j27 (0 : Int32) cM_d cM_found _ _ _ hP hD hS (lv_sub hl [0, 1, 2] rfl) h
    · have h := br_pos c11 h
      refine lv_iconst (v := 1) hx hb dX8_basin_14 (by decide) ?_
      refine lv_goto (tgt := 27) hx hb dX8_basin_15 (by decide) ?_
      exact j27 (1 : Int32) cM_d cM_found _ _ _ hP hD hS (lv_sub hl [0, 1, 2] rfl) h
/-! ===== X8_of ===== -/
def w_X8_of (cyI cyJ cyZ cyB cyO : ClassId) (aM aM_d aM_found aM_came aM_got aM_held aM_off aM_e aM_f aM_kept aM_tape aM_comesUp aM_comesDown aM_path aM_gets aM_gotNow aM_bitsOf aM_sizeOf aM_number aM_passing : Nat) (vM_isKept : Int32) (vM_taped : Int32) (vM_leaked : Int32) (vM_keptAll : Int32) (vM_offAll : Int32) (vM_up : Int64) (vM_down : Int64) (vM_sharesUp : Int64) (vM_sharesDown : Int64) (vM_onUp : Int64) (vM_onDown : Int64) (vM_great : Int32) (vM_triedOff : Int32) (vM_triedLeaked : Int32) (vM_triedKept : Int32) (vM_fitting : Int32) (vM_firstSet : Int32) (vM_inAll : Int32) (vM_inAny : Int32) (vM_at : Int32) (vM_sort : Int32) (vM_from : Int32) (vM_value : Int64) (vM_fault : Int32) (cM_d : Nat → Int32) (cM_found : Nat → Int32) (cM_came : Nat → Int32) (cM_got : Nat → Int32) (cM_held : Nat → Int32) (cM_off : Nat → Int32) : va_W := [(aM, .inr (7, [.ref aM_d, .ref aM_e, .ref aM_f, .ref aM_kept, .int vM_isKept, .ref aM_found, .ref aM_tape, .int vM_taped, .ref aM_came, .ref aM_got, .ref aM_held, .ref aM_off, .int vM_leaked, .int vM_keptAll, .int vM_offAll, .ref aM_comesUp, .ref aM_comesDown, .long vM_up, .long vM_down, .long vM_sharesUp, .long vM_sharesDown, .long vM_onUp, .long vM_onDown, .int vM_great, .ref aM_path, .ref aM_gets, .int vM_triedOff, .int vM_triedLeaked, .int vM_triedKept, .ref aM_gotNow, .int vM_fitting, .int vM_firstSet, .int vM_inAll, .int vM_inAny, .int vM_at, .int vM_sort, .int vM_from, .long vM_value, .int vM_fault, .ref aM_bitsOf, .ref aM_sizeOf, .ref aM_number, .ref aM_passing])), (aM_d, .inl (cyI, 64, .inl cM_d)), (aM_found, .inl (cyI, 7, .inl cM_found)), (aM_came, .inl (cyI, 10, .inl cM_came)), (aM_got, .inl (cyI, 10, .inl cM_got)), (aM_held, .inl (cyI, 10, .inl cM_held)), (aM_off, .inl (cyI, 10, .inl cM_off))]
set_option maxHeartbeats 4000000 in
set_option maxRecDepth 100000 in
theorem t_X8_of (l : Launch) (D : va_G) (cyI cyJ cyZ cyB cyO : ClassId) (aM aM_d aM_found aM_came aM_got aM_held aM_off aM_e aM_f aM_kept aM_tape aM_comesUp aM_comesDown aM_path aM_gets aM_gotNow aM_bitsOf aM_sizeOf aM_number aM_passing : Nat) (vM_isKept : Int32) (vM_taped : Int32) (vM_leaked : Int32) (vM_keptAll : Int32) (vM_offAll : Int32) (vM_up : Int64) (vM_down : Int64) (vM_sharesUp : Int64) (vM_sharesDown : Int64) (vM_onUp : Int64) (vM_onDown : Int64) (vM_great : Int32) (vM_triedOff : Int32) (vM_triedLeaked : Int32) (vM_triedKept : Int32) (vM_fitting : Int32) (vM_firstSet : Int32) (vM_inAll : Int32) (vM_inAny : Int32) (vM_at : Int32) (vM_sort : Int32) (vM_from : Int32) (vM_value : Int64) (vM_fault : Int32) (cM_d : Nat → Int32) (cM_found : Nat → Int32) (cM_came : Nat → Int32) (cM_got : Nat → Int32) (cM_held : Nat → Int32) (cM_off : Nat → Int32) (x1 : Int32) (x2 : Int32) (out : Int32 × Int32 × Int32 × Int32 × (Nat → Int32) × (Nat → Int32) × (Nat → Int32) × (Nat → Int32) × (Nat → Int32)) (h : f_X8_of x1 x2 vM_leaked vM_keptAll vM_offAll cM_d cM_found cM_came cM_got cM_held cM_off = some out) : Mi l yX8_of wsX8_of ({ frames := 3, cells := 0, slots := 0, locals := 74 } : Room) D (tyA cyI cyJ cyZ cyB cyO) [.ref aM, .int x1, .int x2] (w_X8_of cyI cyJ cyZ cyB cyO aM aM_d aM_found aM_came aM_got aM_held aM_off aM_e aM_f aM_kept aM_tape aM_comesUp aM_comesDown aM_path aM_gets aM_gotNow aM_bitsOf aM_sizeOf aM_number aM_passing vM_isKept vM_taped vM_leaked vM_keptAll vM_offAll vM_up vM_down vM_sharesUp vM_sharesDown vM_onUp vM_onDown vM_great vM_triedOff vM_triedLeaked vM_triedKept vM_fitting vM_firstSet vM_inAll vM_inAny vM_at vM_sort vM_from vM_value vM_fault cM_d cM_found cM_came cM_got cM_held cM_off) (w_X8_of cyI cyJ cyZ cyB cyO aM aM_d aM_found aM_came aM_got aM_held aM_off aM_e aM_f aM_kept aM_tape aM_comesUp aM_comesDown aM_path aM_gets aM_gotNow aM_bitsOf aM_sizeOf aM_number aM_passing vM_isKept vM_taped out.2.1 out.2.2.1 out.2.2.2.1 vM_up vM_down vM_sharesUp vM_sharesDown vM_onUp vM_onDown vM_great vM_triedOff vM_triedLeaked vM_triedKept vM_fitting vM_firstSet vM_inAll vM_inAny vM_at vM_sort vM_from vM_value vM_fault cM_d out.2.2.2.2.1 out.2.2.2.2.2.1 out.2.2.2.2.2.2.1 out.2.2.2.2.2.2.2.1 out.2.2.2.2.2.2.2.2) out.1 := by
  refine Mi.mk (cc := cX8_of) (maxL := 3) (rt := .int) (own := RX8) (by decide) rfl rfl (Nat.le_of_ble_eq_true rfl) ?_
  intro p e s m args below meth c A Q F hK hP hD hA hret ls hl
  obtain ⟨hx, hb, hml, hown, hts⟩ := id F
  have hS : va_S A s.heap s.heap [] := va_S.rf
  have hl : lv_has ls 3 [(0, .ref aM), (1, .int x1), (2, .int x2)] := hl
  have in_X8 : ∀ w ∈ wsX80, w ∈ wsX8_of := by decide +kernel
  have q4 := hts (Cond.methodLink RX8 109 yX8_isBasin) (List.mem_of_getElem? (i := 4) rfl)
  have q13 := hts (Cond.methodLink RX8 115 yX8_finds) (List.mem_of_getElem? (i := 13) rfl)
  have q1 := hts (Cond.constantLong RX8 113 (6)) (List.mem_of_getElem? (i := 1) rfl)
  have q10 := hts (Cond.methodLink RX8 70 yX8_in) (List.mem_of_getElem? (i := 10) rfl)
  have q19 := hts (Cond.methodLink RX8 102 yX8_look) (List.mem_of_getElem? (i := 19) rfl)
  have q3 := hts (Cond.fieldLink RX8 32 "ThirdFountainModel" "got" "[I") (List.mem_of_getElem? (i := 3) rfl)
  have q2 := hts (Cond.fieldLink RX8 29 "ThirdFountainModel" "came" "[I") (List.mem_of_getElem? (i := 2) rfl)
  have q28 := hts (Cond.methodLink RX8 74 yX8_its) (List.mem_of_getElem? (i := 28) rfl)
  unfold f_X8_of at h
  refine lv_aload_n hx hb dX8_of_0 rfl (lv_at hl 0 rfl) ?_
  refine lv_iload_n hx hb dX8_of_1 rfl (lv_at hl 1 rfl) ?_
  obtain ⟨u1, hu1, h⟩ := bd_some h
  refine cl_Vi (rest := []) F hK hP hD hS hA hl (t_X8_isBasin l D cyI cyJ cyZ cyB cyO aM aM_d aM_e aM_f aM_kept aM_found aM_tape aM_came aM_got aM_held aM_off aM_comesUp aM_comesDown aM_path aM_gets aM_gotNow aM_bitsOf aM_sizeOf aM_number aM_passing vM_isKept vM_taped vM_leaked vM_keptAll vM_offAll vM_up vM_down vM_sharesUp vM_sharesDown vM_onUp vM_onDown vM_great vM_triedOff vM_triedLeaked vM_triedKept vM_fitting vM_firstSet vM_inAll vM_inAny vM_at vM_sort vM_from vM_value vM_fault cM_d x1 u1 hu1) (cwV 1 hts gX8_of_X8_isBasin rfl rfl rfl (by decide +kernel) ⟨Nat.le_of_ble_eq_true rfl, Nat.le_of_ble_eq_true rfl⟩) 0 [0, 1] [1, 2, 0, 0, 0, 0, 0] [] (w_X8_of cyI cyJ cyZ cyB cyO aM aM_d aM_found aM_came aM_got aM_held aM_off aM_e aM_f aM_kept aM_tape aM_comesUp aM_comesDown aM_path aM_gets aM_gotNow aM_bitsOf aM_sizeOf aM_number aM_passing vM_isKept vM_taped vM_leaked vM_keptAll vM_offAll vM_up vM_down vM_sharesUp vM_sharesDown vM_onUp vM_onDown vM_great vM_triedOff vM_triedLeaked vM_triedKept vM_fitting vM_firstSet vM_inAll vM_inAny vM_at vM_sort vM_from vM_value vM_fault cM_d cM_found cM_came cM_got cM_held cM_off) rfl rfl rfl rfl rfl (by decide +kernel) rfl rfl (Nat.le_of_ble_eq_true rfl) ⟨Nat.zero_le _, Nat.zero_le _⟩ dX8_of_2 (fun H locs hP hD hS => ?_)
  refine lv_if_eq (tgt := 20) hx hb dX8_of_5 (by decide) (fun c2 => ?_) (fun c2 => ?_)
  · have h := br_pos c2 h
    refine lv_aload_n hx hb dX8_of_20 rfl (lv_at hl 0 rfl) ?_
    refine lv_iconst (v := 0) hx hb dX8_of_21 (by decide) ?_
    obtain ⟨u3, hu3, h⟩ := bd_some h
    refine cl_Vi (rest := []) F hK hP hD hS hA hl (t_X8_finds l D cyI cyJ cyZ cyB cyO aM aM_found aM_d aM_e aM_f aM_kept aM_tape aM_came aM_got aM_held aM_off aM_comesUp aM_comesDown aM_path aM_gets aM_gotNow aM_bitsOf aM_sizeOf aM_number aM_passing vM_isKept vM_taped vM_leaked vM_keptAll vM_offAll vM_up vM_down vM_sharesUp vM_sharesDown vM_onUp vM_onDown vM_great vM_triedOff vM_triedLeaked vM_triedKept vM_fitting vM_firstSet vM_inAll vM_inAny vM_at vM_sort vM_from vM_value vM_fault cM_found (0 : Int32) u3 hu3) (cwV 1 hts gX8_of_X8_finds rfl rfl rfl (by decide +kernel) ⟨Nat.le_of_ble_eq_true rfl, Nat.le_of_ble_eq_true rfl⟩) 0 [0, 2] [1, 0, 2, 0, 0, 0, 0] [] (w_X8_of cyI cyJ cyZ cyB cyO aM aM_d aM_found aM_came aM_got aM_held aM_off aM_e aM_f aM_kept aM_tape aM_comesUp aM_comesDown aM_path aM_gets aM_gotNow aM_bitsOf aM_sizeOf aM_number aM_passing vM_isKept vM_taped vM_leaked vM_keptAll vM_offAll vM_up vM_down vM_sharesUp vM_sharesDown vM_onUp vM_onDown vM_great vM_triedOff vM_triedLeaked vM_triedKept vM_fitting vM_firstSet vM_inAll vM_inAny vM_at vM_sort vM_from vM_value vM_fault cM_d u3.2 cM_came cM_got cM_held cM_off) rfl rfl rfl rfl rfl (by decide +kernel) rfl rfl (Nat.le_of_ble_eq_true rfl) ⟨Nat.zero_le _, Nat.zero_le _⟩ dX8_of_22 (fun H locs hP hD hS => ?_)
    obtain rfl := Option.some.inj h
    exact hret _ _ _ _ _ hP hD hS dX8_of_25 rfl rfl
  · have h := br_neg c2 h
    refine lv_iload_n hx hb dX8_of_8 rfl (lv_at hl 2 rfl) ?_
    refine lv_i2l hx hb dX8_of_9 rfl ?_
    refine lv_lconst (v := 0) hx hb dX8_of_10 (by decide) ?_
    refine lv_ldc2 (v := 6) hx hb hown q1 dX8_of_11 ?_
    obtain ⟨u4, hu4, h⟩ := bd_some h
    refine cl_Si (rest := []) F hK hP hD hS hA hl (t_X8_in l D cyI cyJ cyZ cyB cyO x2.toInt64 (0 : Int64) (6 : Int64) u4 hu4) (va_cwS 3 hts gX8_of_X8_in rfl rfl rfl (by decide +kernel) ⟨Nat.le_of_ble_eq_true rfl, Nat.le_of_ble_eq_true rfl⟩) [] [0, 0, 0, 0, 0, 0, 0] [] (w_X8_of cyI cyJ cyZ cyB cyO aM aM_d aM_found aM_came aM_got aM_held aM_off aM_e aM_f aM_kept aM_tape aM_comesUp aM_comesDown aM_path aM_gets aM_gotNow aM_bitsOf aM_sizeOf aM_number aM_passing vM_isKept vM_taped vM_leaked vM_keptAll vM_offAll vM_up vM_down vM_sharesUp vM_sharesDown vM_onUp vM_onDown vM_great vM_triedOff vM_triedLeaked vM_triedKept vM_fitting vM_firstSet vM_inAll vM_inAny vM_at vM_sort vM_from vM_value vM_fault cM_d cM_found cM_came cM_got cM_held cM_off) rfl rfl rfl (by decide +kernel) rfl rfl (Nat.le_of_ble_eq_true rfl) ⟨Nat.zero_le _, Nat.zero_le _⟩ dX8_of_14 (fun H locs hP hD hS => ?_)
    refine lv_if_ne (tgt := 26) hx hb dX8_of_17 (by decide) (fun c5 => ?_) (fun c5 => ?_)
    · have h := br_neg c5 h
      refine lv_aload_n hx hb dX8_of_26 rfl (lv_at hl 0 rfl) ?_
      obtain ⟨u6, hu6, h⟩ := bd_some h
      refine cl_Vv (rest := []) F hK hP hD hS hA hl (t_X8_look l D cyI cyJ cyZ cyB cyO aM aM_d aM_came aM_got aM_held aM_off aM_e aM_f aM_kept aM_found aM_tape aM_comesUp aM_comesDown aM_path aM_gets aM_gotNow aM_bitsOf aM_sizeOf aM_number aM_passing vM_isKept vM_taped vM_leaked vM_keptAll vM_offAll vM_up vM_down vM_sharesUp vM_sharesDown vM_onUp vM_onDown vM_great vM_triedOff vM_triedLeaked vM_triedKept vM_fitting vM_firstSet vM_inAll vM_inAny vM_at vM_sort vM_from vM_value vM_fault cM_d cM_came cM_got cM_held cM_off u6 hu6) (cwV 0 hts gX8_of_X8_look rfl rfl rfl (by decide +kernel) ⟨Nat.le_of_ble_eq_true rfl, Nat.le_of_ble_eq_true rfl⟩) 0 [0, 1, 3, 4, 5, 6] [1, 2, 0, 3, 4, 5, 6] [] (w_X8_of cyI cyJ cyZ cyB cyO aM aM_d aM_found aM_came aM_got aM_held aM_off aM_e aM_f aM_kept aM_tape aM_comesUp aM_comesDown aM_path aM_gets aM_gotNow aM_bitsOf aM_sizeOf aM_number aM_passing vM_isKept vM_taped u6.1 u6.2.1 u6.2.2.1 vM_up vM_down vM_sharesUp vM_sharesDown vM_onUp vM_onDown vM_great vM_triedOff vM_triedLeaked vM_triedKept vM_fitting vM_firstSet vM_inAll vM_inAny vM_at vM_sort vM_from vM_value vM_fault cM_d cM_found u6.2.2.2.1 u6.2.2.2.2.1 u6.2.2.2.2.2.1 u6.2.2.2.2.2.2) rfl rfl rfl rfl rfl (by decide +kernel) rfl rfl (Nat.le_of_ble_eq_true rfl) ⟨Nat.zero_le _, Nat.zero_le _⟩ dX8_of_27 (fun H locs hP hD hS => ?_)
      refine lv_iload_n hx hb dX8_of_30 rfl (lv_at hl 2 rfl) ?_
      refine lv_iconst (v := 5) hx hb dX8_of_31 (by decide) ?_
      refine lv_icmp_ge (tgt := 44) hx hb dX8_of_32 (by decide) (fun c7 => ?_) (fun c7 => ?_)
      · have h := br_pos c7 h
        refine lv_iload_n hx hb dX8_of_44 rfl (lv_at hl 2 rfl) ?_
        refine lv_iconst (v := 5) hx hb dX8_of_45 (by decide) ?_
        refine lv_icmp_ne (tgt := 58) hx hb dX8_of_46 (by decide) (fun c8 => ?_) (fun c8 => ?_)
        · have h := br_neg c8 h
          refine lv_aload_n hx hb dX8_of_58 rfl (lv_at hl 0 rfl) ?_
          refine va_get (D := D) (ci := 7) (v := .ref aM_got) (C := RX8) (T := TX8) (N := 43) hx hb hts in_X8 hown hK hP 0 rfl rfl 9 (by decide) q3 (fun _ h9 => h9) rfl dX8_of_59 ?_
          refine lv_iload_n hx hb dX8_of_62 rfl (lv_at hl 1 rfl) ?_
          obtain ⟨g9, h⟩ := gd_some h
          refine va_iald hx hb hK hP 4 0 rfl rfl g9 dX8_of_63 ?_
          obtain rfl := Option.some.inj h
          exact hret _ _ _ _ _ hP hD hS dX8_of_64 rfl rfl
        · have h := br_pos c8 h
          refine lv_aload_n hx hb dX8_of_49 rfl (lv_at hl 0 rfl) ?_
          refine va_get (D := D) (ci := 7) (v := .ref aM_came) (C := RX8) (T := TX8) (N := 43) hx hb hts in_X8 hown hK hP 0 rfl rfl 8 (by decide) q2 (fun _ h9 => h9) rfl dX8_of_50 ?_
          refine lv_iload_n hx hb dX8_of_53 rfl (lv_at hl 1 rfl) ?_
          obtain ⟨g10, h⟩ := gd_some h
          refine va_iald hx hb hK hP 3 0 rfl rfl g10 dX8_of_54 ?_
          refine lv_goto (tgt := 64) hx hb dX8_of_55 (by decide) ?_
          obtain rfl := Option.some.inj h
          exact hret _ _ _ _ _ hP hD hS dX8_of_64 rfl rfl
      · have h := br_neg c7 h
        refine lv_aload_n hx hb dX8_of_35 rfl (lv_at hl 0 rfl) ?_
        refine lv_iload_n hx hb dX8_of_36 rfl (lv_at hl 1 rfl) ?_
        refine lv_iload_n hx hb dX8_of_37 rfl (lv_at hl 2 rfl) ?_
        obtain ⟨u11, hu11, h⟩ := bd_some h
        refine cl_Vi (rest := []) F hK hP hD hS hA hl (t_X8_its l D cyI cyJ cyZ cyB cyO aM aM_d aM_e aM_f aM_kept aM_found aM_tape aM_came aM_got aM_held aM_off aM_comesUp aM_comesDown aM_path aM_gets aM_gotNow aM_bitsOf aM_sizeOf aM_number aM_passing vM_isKept vM_taped u6.1 u6.2.1 u6.2.2.1 vM_up vM_down vM_sharesUp vM_sharesDown vM_onUp vM_onDown vM_great vM_triedOff vM_triedLeaked vM_triedKept vM_fitting vM_firstSet vM_inAll vM_inAny vM_at vM_sort vM_from vM_value vM_fault cM_d x1 x2 u11 hu11) (cwV 2 hts gX8_of_X8_its rfl rfl rfl (by decide +kernel) ⟨Nat.le_of_ble_eq_true rfl, Nat.le_of_ble_eq_true rfl⟩) 0 [0, 1] [1, 2, 0, 0, 0, 0, 0] [] (w_X8_of cyI cyJ cyZ cyB cyO aM aM_d aM_found aM_came aM_got aM_held aM_off aM_e aM_f aM_kept aM_tape aM_comesUp aM_comesDown aM_path aM_gets aM_gotNow aM_bitsOf aM_sizeOf aM_number aM_passing vM_isKept vM_taped u6.1 u6.2.1 u6.2.2.1 vM_up vM_down vM_sharesUp vM_sharesDown vM_onUp vM_onDown vM_great vM_triedOff vM_triedLeaked vM_triedKept vM_fitting vM_firstSet vM_inAll vM_inAny vM_at vM_sort vM_from vM_value vM_fault cM_d cM_found u6.2.2.2.1 u6.2.2.2.2.1 u6.2.2.2.2.2.1 u6.2.2.2.2.2.2) rfl rfl rfl rfl rfl (by decide +kernel) rfl rfl (Nat.le_of_ble_eq_true rfl) ⟨Nat.zero_le _, Nat.zero_le _⟩ dX8_of_38 (fun H locs hP hD hS => ?_)
        refine lv_goto (tgt := 64) hx hb dX8_of_41 (by decide) ?_
        obtain rfl := Option.some.inj h
        exact hret _ _ _ _ _ hP hD hS dX8_of_64 rfl rfl
    · have h := br_pos c5 h
      refine lv_aload_n hx hb dX8_of_20 rfl (lv_at hl 0 rfl) ?_
      refine lv_iconst (v := 0) hx hb dX8_of_21 (by decide) ?_
      obtain ⟨u12, hu12, h⟩ := bd_some h
      refine cl_Vi (rest := []) F hK hP hD hS hA hl (t_X8_finds l D cyI cyJ cyZ cyB cyO aM aM_found aM_d aM_e aM_f aM_kept aM_tape aM_came aM_got aM_held aM_off aM_comesUp aM_comesDown aM_path aM_gets aM_gotNow aM_bitsOf aM_sizeOf aM_number aM_passing vM_isKept vM_taped vM_leaked vM_keptAll vM_offAll vM_up vM_down vM_sharesUp vM_sharesDown vM_onUp vM_onDown vM_great vM_triedOff vM_triedLeaked vM_triedKept vM_fitting vM_firstSet vM_inAll vM_inAny vM_at vM_sort vM_from vM_value vM_fault cM_found (0 : Int32) u12 hu12) (cwV 1 hts gX8_of_X8_finds rfl rfl rfl (by decide +kernel) ⟨Nat.le_of_ble_eq_true rfl, Nat.le_of_ble_eq_true rfl⟩) 0 [0, 2] [1, 0, 2, 0, 0, 0, 0] [] (w_X8_of cyI cyJ cyZ cyB cyO aM aM_d aM_found aM_came aM_got aM_held aM_off aM_e aM_f aM_kept aM_tape aM_comesUp aM_comesDown aM_path aM_gets aM_gotNow aM_bitsOf aM_sizeOf aM_number aM_passing vM_isKept vM_taped vM_leaked vM_keptAll vM_offAll vM_up vM_down vM_sharesUp vM_sharesDown vM_onUp vM_onDown vM_great vM_triedOff vM_triedLeaked vM_triedKept vM_fitting vM_firstSet vM_inAll vM_inAny vM_at vM_sort vM_from vM_value vM_fault cM_d u12.2 cM_came cM_got cM_held cM_off) rfl rfl rfl rfl rfl (by decide +kernel) rfl rfl (Nat.le_of_ble_eq_true rfl) ⟨Nat.zero_le _, Nat.zero_le _⟩ dX8_of_22 (fun H locs hP hD hS => ?_)
      obtain rfl := Option.some.inj h
      exact hret _ _ _ _ _ hP hD hS dX8_of_25 rfl rfl
/-! ===== X8_change ===== -/
def w_X8_change (cyI cyJ cyZ cyB cyO : ClassId) (aM aM_d aM_found aM_e aM_f aM_kept aM_tape aM_came aM_got aM_held aM_off aM_comesUp aM_comesDown aM_path aM_gets aM_gotNow aM_bitsOf aM_sizeOf aM_number aM_passing : Nat) (vM_isKept : Int32) (vM_taped : Int32) (vM_leaked : Int32) (vM_keptAll : Int32) (vM_offAll : Int32) (vM_up : Int64) (vM_down : Int64) (vM_sharesUp : Int64) (vM_sharesDown : Int64) (vM_onUp : Int64) (vM_onDown : Int64) (vM_great : Int32) (vM_triedOff : Int32) (vM_triedLeaked : Int32) (vM_triedKept : Int32) (vM_fitting : Int32) (vM_firstSet : Int32) (vM_inAll : Int32) (vM_inAny : Int32) (vM_at : Int32) (vM_sort : Int32) (vM_from : Int32) (vM_value : Int64) (vM_fault : Int32) (cM_d : Nat → Int32) (cM_found : Nat → Int32) : va_W := [(aM, .inr (7, [.ref aM_d, .ref aM_e, .ref aM_f, .ref aM_kept, .int vM_isKept, .ref aM_found, .ref aM_tape, .int vM_taped, .ref aM_came, .ref aM_got, .ref aM_held, .ref aM_off, .int vM_leaked, .int vM_keptAll, .int vM_offAll, .ref aM_comesUp, .ref aM_comesDown, .long vM_up, .long vM_down, .long vM_sharesUp, .long vM_sharesDown, .long vM_onUp, .long vM_onDown, .int vM_great, .ref aM_path, .ref aM_gets, .int vM_triedOff, .int vM_triedLeaked, .int vM_triedKept, .ref aM_gotNow, .int vM_fitting, .int vM_firstSet, .int vM_inAll, .int vM_inAny, .int vM_at, .int vM_sort, .int vM_from, .long vM_value, .int vM_fault, .ref aM_bitsOf, .ref aM_sizeOf, .ref aM_number, .ref aM_passing])), (aM_d, .inl (cyI, 64, .inl cM_d)), (aM_found, .inl (cyI, 7, .inl cM_found))]
set_option maxHeartbeats 4000000 in
set_option maxRecDepth 100000 in
theorem t_X8_change (l : Launch) (D : va_G) (cyI cyJ cyZ cyB cyO : ClassId) (aM aM_d aM_found aM_e aM_f aM_kept aM_tape aM_came aM_got aM_held aM_off aM_comesUp aM_comesDown aM_path aM_gets aM_gotNow aM_bitsOf aM_sizeOf aM_number aM_passing : Nat) (vM_isKept : Int32) (vM_taped : Int32) (vM_leaked : Int32) (vM_keptAll : Int32) (vM_offAll : Int32) (vM_up : Int64) (vM_down : Int64) (vM_sharesUp : Int64) (vM_sharesDown : Int64) (vM_onUp : Int64) (vM_onDown : Int64) (vM_great : Int32) (vM_triedOff : Int32) (vM_triedLeaked : Int32) (vM_triedKept : Int32) (vM_fitting : Int32) (vM_firstSet : Int32) (vM_inAll : Int32) (vM_inAny : Int32) (vM_at : Int32) (vM_sort : Int32) (vM_from : Int32) (vM_value : Int64) (vM_fault : Int32) (cM_d : Nat → Int32) (cM_found : Nat → Int32) (x1 : Int32) (x2 : Int32) (x3 : Int32) (out : Int32 × (Nat → Int32) × (Nat → Int32)) (h : f_X8_change x1 x2 x3 cM_d cM_found = some out) : Mi l yX8_change wsX8_change ({ frames := 2, cells := 0, slots := 0, locals := 46 } : Room) D (tyA cyI cyJ cyZ cyB cyO) [.ref aM, .int x1, .int x2, .int x3] (w_X8_change cyI cyJ cyZ cyB cyO aM aM_d aM_found aM_e aM_f aM_kept aM_tape aM_came aM_got aM_held aM_off aM_comesUp aM_comesDown aM_path aM_gets aM_gotNow aM_bitsOf aM_sizeOf aM_number aM_passing vM_isKept vM_taped vM_leaked vM_keptAll vM_offAll vM_up vM_down vM_sharesUp vM_sharesDown vM_onUp vM_onDown vM_great vM_triedOff vM_triedLeaked vM_triedKept vM_fitting vM_firstSet vM_inAll vM_inAny vM_at vM_sort vM_from vM_value vM_fault cM_d cM_found) (w_X8_change cyI cyJ cyZ cyB cyO aM aM_d aM_found aM_e aM_f aM_kept aM_tape aM_came aM_got aM_held aM_off aM_comesUp aM_comesDown aM_path aM_gets aM_gotNow aM_bitsOf aM_sizeOf aM_number aM_passing vM_isKept vM_taped vM_leaked vM_keptAll vM_offAll vM_up vM_down vM_sharesUp vM_sharesDown vM_onUp vM_onDown vM_great vM_triedOff vM_triedLeaked vM_triedKept vM_fitting vM_firstSet vM_inAll vM_inAny vM_at vM_sort vM_from vM_value vM_fault out.2.1 out.2.2) out.1 := by
  refine Mi.mk (cc := cX8_change) (maxL := 6) (rt := .int) (own := RX8) (by decide) rfl rfl (Nat.le_of_ble_eq_true rfl) ?_
  intro p e s m args below meth c A Q F hK hP hD hA hret ls hl
  obtain ⟨hx, hb, hml, hown, hts⟩ := id F
  have hS : va_S A s.heap s.heap [] := va_S.rf
  have hl : lv_has ls 6 [(0, .ref aM), (1, .int x1), (2, .int x2), (3, .int x3)] := hl
  have q9 := hts (Cond.methodLink RX8 109 yX8_isBasin) (List.mem_of_getElem? (i := 9) rfl)
  have q14 := hts (Cond.methodLink RX8 115 yX8_finds) (List.mem_of_getElem? (i := 14) rfl)
  have q20 := hts (Cond.methodLink RX8 74 yX8_its) (List.mem_of_getElem? (i := 20) rfl)
  have q24 := hts (Cond.methodLink RX8 105 yX8_sets) (List.mem_of_getElem? (i := 24) rfl)
  have q4 := hts (Cond.constantLong RX8 125 (99999999)) (List.mem_of_getElem? (i := 4) rfl)
  have q5 := hts (Cond.methodLink RX8 70 yX8_in) (List.mem_of_getElem? (i := 5) rfl)
  have q3 := hts (Cond.constantLong RX8 123 (30)) (List.mem_of_getElem? (i := 3) rfl)
  have q2 := hts (Cond.constantLong RX8 121 (9)) (List.mem_of_getElem? (i := 2) rfl)
  have q1 := hts (Cond.constantLong RX8 113 (6)) (List.mem_of_getElem? (i := 1) rfl)
  unfold f_X8_change at h
  refine lv_iload_n hx hb dX8_change_0 rfl (lv_at hl 2 rfl) ?_
  have j72 : ∀ (t0 : Int32) (cM_d : Nat → Int32) (cM_found : Nat → Int32) (H : Heap) (locs : List Loc) (ls : Array Slot), va_P D vwCl (w_X8_change cyI cyJ cyZ cyB cyO aM aM_d aM_found aM_e aM_f aM_kept aM_tape aM_came aM_got aM_held aM_off aM_comesUp aM_comesDown aM_path aM_gets aM_gotNow aM_bitsOf aM_sizeOf aM_number aM_passing vM_isKept vM_taped vM_leaked vM_keptAll vM_offAll vM_up vM_down vM_sharesUp vM_sharesDown vM_onUp vM_onDown vM_great vM_triedOff vM_triedLeaked vM_triedKept vM_fitting vM_firstSet vM_inAll vM_inAny vM_at vM_sort vM_from vM_value vM_fault cM_d cM_found) H → va_D A (w_X8_change cyI cyJ cyZ cyB cyO aM aM_d aM_found aM_e aM_f aM_kept aM_tape aM_came aM_got aM_held aM_off aM_comesUp aM_comesDown aM_path aM_gets aM_gotNow aM_bitsOf aM_sizeOf aM_number aM_passing vM_isKept vM_taped vM_leaked vM_keptAll vM_offAll vM_up vM_down vM_sharesUp vM_sharesDown vM_onUp vM_onDown vM_great vM_triedOff vM_triedLeaked vM_triedKept vM_fitting vM_firstSet vM_inAll vM_inAny vM_at vM_sort vM_from vM_value vM_fault cM_d cM_found) → va_S A s.heap H locs → lv_has ls 6 [(0, .ref aM), (1, .int x1), (2, .int x2), (3, .int x3)] → f_X8_change_J72 x1 x2 x3 t0 cM_d cM_found = some out → W p l e ({ frames := 2, cells := 0, slots := 0, locals := 46 } : Room) s m args below meth c H locs 0 0 Q (F0 m 72 ls [.int t0]) := by
    intro t0 cM_d cM_found H locs ls hP hD hS hl h
    unfold f_X8_change_J72 at h
    refine lv_istore (lv' := [(4, .int t0), (0, .ref aM), (1, .int x1), (2, .int x2), (3, .int x3)]) hx hb dX8_change_72 hl (by decide) rfl (fun ls hl => ?_)
    refine lv_aload_n hx hb dX8_change_74 rfl (lv_at hl 1 rfl) ?_
    refine lv_iload_n hx hb dX8_change_75 rfl (lv_at hl 2 rfl) ?_
    obtain ⟨u1, hu1, h⟩ := bd_some h
    refine cl_Vi (rest := []) F hK hP hD hS hA hl (t_X8_isBasin l D cyI cyJ cyZ cyB cyO aM aM_d aM_e aM_f aM_kept aM_found aM_tape aM_came aM_got aM_held aM_off aM_comesUp aM_comesDown aM_path aM_gets aM_gotNow aM_bitsOf aM_sizeOf aM_number aM_passing vM_isKept vM_taped vM_leaked vM_keptAll vM_offAll vM_up vM_down vM_sharesUp vM_sharesDown vM_onUp vM_onDown vM_great vM_triedOff vM_triedLeaked vM_triedKept vM_fitting vM_firstSet vM_inAll vM_inAny vM_at vM_sort vM_from vM_value vM_fault cM_d x1 u1 hu1) (cwV 1 hts gX8_change_X8_isBasin rfl rfl rfl (by decide +kernel) ⟨Nat.le_of_ble_eq_true rfl, Nat.le_of_ble_eq_true rfl⟩) 0 [0, 1] [1, 2, 0] [] (w_X8_change cyI cyJ cyZ cyB cyO aM aM_d aM_found aM_e aM_f aM_kept aM_tape aM_came aM_got aM_held aM_off aM_comesUp aM_comesDown aM_path aM_gets aM_gotNow aM_bitsOf aM_sizeOf aM_number aM_passing vM_isKept vM_taped vM_leaked vM_keptAll vM_offAll vM_up vM_down vM_sharesUp vM_sharesDown vM_onUp vM_onDown vM_great vM_triedOff vM_triedLeaked vM_triedKept vM_fitting vM_firstSet vM_inAll vM_inAny vM_at vM_sort vM_from vM_value vM_fault cM_d cM_found) rfl rfl rfl rfl rfl (by decide +kernel) rfl rfl (Nat.le_of_ble_eq_true rfl) ⟨Nat.zero_le _, Nat.zero_le _⟩ dX8_change_76 (fun H locs hP hD hS => ?_)
    refine lv_if_eq (tgt := 87) hx hb dX8_change_79 (by decide) (fun c2 => ?_) (fun c2 => ?_)
    · have h := br_pos c2 h
      refine lv_aload_n hx hb dX8_change_87 rfl (lv_at hl 1 rfl) ?_
      refine lv_iconst (v := 0) hx hb dX8_change_88 (by decide) ?_
      obtain ⟨u3, hu3, h⟩ := bd_some h
      refine cl_Vi (rest := []) F hK hP hD hS hA hl (t_X8_finds l D cyI cyJ cyZ cyB cyO aM aM_found aM_d aM_e aM_f aM_kept aM_tape aM_came aM_got aM_held aM_off aM_comesUp aM_comesDown aM_path aM_gets aM_gotNow aM_bitsOf aM_sizeOf aM_number aM_passing vM_isKept vM_taped vM_leaked vM_keptAll vM_offAll vM_up vM_down vM_sharesUp vM_sharesDown vM_onUp vM_onDown vM_great vM_triedOff vM_triedLeaked vM_triedKept vM_fitting vM_firstSet vM_inAll vM_inAny vM_at vM_sort vM_from vM_value vM_fault cM_found (0 : Int32) u3 hu3) (cwV 1 hts gX8_change_X8_finds rfl rfl rfl (by decide +kernel) ⟨Nat.le_of_ble_eq_true rfl, Nat.le_of_ble_eq_true rfl⟩) 0 [0, 2] [1, 0, 2] [] (w_X8_change cyI cyJ cyZ cyB cyO aM aM_d aM_found aM_e aM_f aM_kept aM_tape aM_came aM_got aM_held aM_off aM_comesUp aM_comesDown aM_path aM_gets aM_gotNow aM_bitsOf aM_sizeOf aM_number aM_passing vM_isKept vM_taped vM_leaked vM_keptAll vM_offAll vM_up vM_down vM_sharesUp vM_sharesDown vM_onUp vM_onDown vM_great vM_triedOff vM_triedLeaked vM_triedKept vM_fitting vM_firstSet vM_inAll vM_inAny vM_at vM_sort vM_from vM_value vM_fault cM_d u3.2) rfl rfl rfl rfl rfl (by decide +kernel) rfl rfl (Nat.le_of_ble_eq_true rfl) ⟨Nat.zero_le _, Nat.zero_le _⟩ dX8_change_89 (fun H locs hP hD hS => ?_)
      obtain rfl := Option.some.inj h
      exact hret _ _ _ _ _ hP hD hS dX8_change_92 rfl rfl
    · have h := br_neg c2 h
      refine lv_iload hx hb dX8_change_82 (lv_at hl 0 rfl) ?_
      refine lv_if_ne (tgt := 93) hx hb dX8_change_84 (by decide) (fun c4 => ?_) (fun c4 => ?_)
      · have h := br_neg c4 h
        refine lv_aload_n hx hb dX8_change_93 rfl (lv_at hl 1 rfl) ?_
        refine lv_iload_n hx hb dX8_change_94 rfl (lv_at hl 2 rfl) ?_
        refine lv_iload_n hx hb dX8_change_95 rfl (lv_at hl 3 rfl) ?_
        obtain ⟨u5, hu5, h⟩ := bd_some h
        refine cl_Vi (rest := []) F hK hP hD hS hA hl (t_X8_its l D cyI cyJ cyZ cyB cyO aM aM_d aM_e aM_f aM_kept aM_found aM_tape aM_came aM_got aM_held aM_off aM_comesUp aM_comesDown aM_path aM_gets aM_gotNow aM_bitsOf aM_sizeOf aM_number aM_passing vM_isKept vM_taped vM_leaked vM_keptAll vM_offAll vM_up vM_down vM_sharesUp vM_sharesDown vM_onUp vM_onDown vM_great vM_triedOff vM_triedLeaked vM_triedKept vM_fitting vM_firstSet vM_inAll vM_inAny vM_at vM_sort vM_from vM_value vM_fault cM_d x1 x2 u5 hu5) (cwV 2 hts gX8_change_X8_its rfl rfl rfl (by decide +kernel) ⟨Nat.le_of_ble_eq_true rfl, Nat.le_of_ble_eq_true rfl⟩) 0 [0, 1] [1, 2, 0] [] (w_X8_change cyI cyJ cyZ cyB cyO aM aM_d aM_found aM_e aM_f aM_kept aM_tape aM_came aM_got aM_held aM_off aM_comesUp aM_comesDown aM_path aM_gets aM_gotNow aM_bitsOf aM_sizeOf aM_number aM_passing vM_isKept vM_taped vM_leaked vM_keptAll vM_offAll vM_up vM_down vM_sharesUp vM_sharesDown vM_onUp vM_onDown vM_great vM_triedOff vM_triedLeaked vM_triedKept vM_fitting vM_firstSet vM_inAll vM_inAny vM_at vM_sort vM_from vM_value vM_fault cM_d cM_found) rfl rfl rfl rfl rfl (by decide +kernel) rfl rfl (Nat.le_of_ble_eq_true rfl) ⟨Nat.zero_le _, Nat.zero_le _⟩ dX8_change_96 (fun H locs hP hD hS => ?_)
        refine lv_istore (lv' := [(5, .int u5), (4, .int t0), (0, .ref aM), (1, .int x1), (2, .int x2), (3, .int x3)]) hx hb dX8_change_99 hl (by decide) rfl (fun ls hl => ?_)
        refine lv_aload_n hx hb dX8_change_101 rfl (lv_at hl 2 rfl) ?_
        refine lv_iload_n hx hb dX8_change_102 rfl (lv_at hl 3 rfl) ?_
        refine lv_iload_n hx hb dX8_change_103 rfl (lv_at hl 4 rfl) ?_
        refine lv_iload_n hx hb dX8_change_104 rfl (lv_at hl 5 rfl) ?_
        obtain ⟨u6, hu6, h⟩ := bd_some h
        refine cl_Vv (rest := []) F hK hP hD hS hA hl (t_X8_sets l D cyI cyJ cyZ cyB cyO aM aM_d aM_e aM_f aM_kept aM_found aM_tape aM_came aM_got aM_held aM_off aM_comesUp aM_comesDown aM_path aM_gets aM_gotNow aM_bitsOf aM_sizeOf aM_number aM_passing vM_isKept vM_taped vM_leaked vM_keptAll vM_offAll vM_up vM_down vM_sharesUp vM_sharesDown vM_onUp vM_onDown vM_great vM_triedOff vM_triedLeaked vM_triedKept vM_fitting vM_firstSet vM_inAll vM_inAny vM_at vM_sort vM_from vM_value vM_fault cM_d x1 x2 x3 u6 hu6) (cwV 3 hts gX8_change_X8_sets rfl rfl rfl (by decide +kernel) ⟨Nat.le_of_ble_eq_true rfl, Nat.le_of_ble_eq_true rfl⟩) 0 [0, 1] [1, 2, 0] [] (w_X8_change cyI cyJ cyZ cyB cyO aM aM_d aM_found aM_e aM_f aM_kept aM_tape aM_came aM_got aM_held aM_off aM_comesUp aM_comesDown aM_path aM_gets aM_gotNow aM_bitsOf aM_sizeOf aM_number aM_passing vM_isKept vM_taped vM_leaked vM_keptAll vM_offAll vM_up vM_down vM_sharesUp vM_sharesDown vM_onUp vM_onDown vM_great vM_triedOff vM_triedLeaked vM_triedKept vM_fitting vM_firstSet vM_inAll vM_inAny vM_at vM_sort vM_from vM_value vM_fault u6 cM_found) rfl rfl rfl rfl rfl (by decide +kernel) rfl rfl (Nat.le_of_ble_eq_true rfl) ⟨Nat.zero_le _, Nat.zero_le _⟩ dX8_change_105 (fun H locs hP hD hS => ?_)
        refine lv_iload hx hb dX8_change_108 (lv_at hl 0 rfl) ?_
        obtain rfl := Option.some.inj h
        exact hret _ _ _ _ _ hP hD hS dX8_change_110 rfl rfl
      · have h := br_pos c4 h
        refine lv_aload_n hx hb dX8_change_87 rfl (lv_at hl 1 rfl) ?_
        refine lv_iconst (v := 0) hx hb dX8_change_88 (by decide) ?_
        obtain ⟨u7, hu7, h⟩ := bd_some h
        refine cl_Vi (rest := []) F hK hP hD hS hA hl (t_X8_finds l D cyI cyJ cyZ cyB cyO aM aM_found aM_d aM_e aM_f aM_kept aM_tape aM_came aM_got aM_held aM_off aM_comesUp aM_comesDown aM_path aM_gets aM_gotNow aM_bitsOf aM_sizeOf aM_number aM_passing vM_isKept vM_taped vM_leaked vM_keptAll vM_offAll vM_up vM_down vM_sharesUp vM_sharesDown vM_onUp vM_onDown vM_great vM_triedOff vM_triedLeaked vM_triedKept vM_fitting vM_firstSet vM_inAll vM_inAny vM_at vM_sort vM_from vM_value vM_fault cM_found (0 : Int32) u7 hu7) (cwV 1 hts gX8_change_X8_finds rfl rfl rfl (by decide +kernel) ⟨Nat.le_of_ble_eq_true rfl, Nat.le_of_ble_eq_true rfl⟩) 0 [0, 2] [1, 0, 2] [] (w_X8_change cyI cyJ cyZ cyB cyO aM aM_d aM_found aM_e aM_f aM_kept aM_tape aM_came aM_got aM_held aM_off aM_comesUp aM_comesDown aM_path aM_gets aM_gotNow aM_bitsOf aM_sizeOf aM_number aM_passing vM_isKept vM_taped vM_leaked vM_keptAll vM_offAll vM_up vM_down vM_sharesUp vM_sharesDown vM_onUp vM_onDown vM_great vM_triedOff vM_triedLeaked vM_triedKept vM_fitting vM_firstSet vM_inAll vM_inAny vM_at vM_sort vM_from vM_value vM_fault cM_d u7.2) rfl rfl rfl rfl rfl (by decide +kernel) rfl rfl (Nat.le_of_ble_eq_true rfl) ⟨Nat.zero_le _, Nat.zero_le _⟩ dX8_change_89 (fun H locs hP hD hS => ?_)
        obtain rfl := Option.some.inj h
        exact hret _ _ _ _ _ hP hD hS dX8_change_92 rfl rfl
  refine lv_if_ne (tgt := 16) hx hb dX8_change_1 (by decide) (fun c8 => ?_) (fun c8 => ?_)
  · have h := br_neg c8 h
    refine lv_iload_n hx hb dX8_change_16 rfl (lv_at hl 2 rfl) ?_
    refine lv_iconst (v := 2) hx hb dX8_change_17 (by decide) ?_
    refine lv_icmp_ne (tgt := 33) hx hb dX8_change_18 (by decide) (fun c9 => ?_) (fun c9 => ?_)
    · have h := br_neg c9 h
      refine lv_iload_n hx hb dX8_change_33 rfl (lv_at hl 2 rfl) ?_
      refine lv_iconst (v := 3) hx hb dX8_change_34 (by decide) ?_
      refine lv_icmp_ne (tgt := 50) hx hb dX8_change_35 (by decide) (fun c10 => ?_) (fun c10 => ?_)
      · have h := br_neg c10 h
        refine lv_iload_n hx hb dX8_change_50 rfl (lv_at hl 2 rfl) ?_
        refine lv_iconst (v := 4) hx hb dX8_change_51 (by decide) ?_
        refine lv_icmp_ne (tgt := 71) hx hb dX8_change_52 (by decide) (fun c11 => ?_) (fun c11 => ?_)
        · have h := br_neg c11 h
          refine lv_iconst (v := 0) hx hb dX8_change_71 (by decide) ?_
          exact j72 (0 : Int32) cM_d cM_found _ _ _ hP hD hS (lv_sub hl [0, 1, 2, 3] rfl) h
        · have h := br_pos c11 h
          refine lv_iload_n hx hb dX8_change_55 rfl (lv_at hl 3 rfl) ?_
          refine lv_i2l hx hb dX8_change_56 rfl ?_
          refine lv_lconst (v := 0) hx hb dX8_change_57 (by decide) ?_
          refine lv_ldc2 (v := 99999999) hx hb hown q4 dX8_change_58 ?_
          obtain ⟨u12, hu12, h⟩ := bd_some h
          refine cl_Si (rest := []) F hK hP hD hS hA hl (t_X8_in l D cyI cyJ cyZ cyB cyO x3.toInt64 (0 : Int64) (99999999 : Int64) u12 hu12) (va_cwS 3 hts gX8_change_X8_in rfl rfl rfl (by decide +kernel) ⟨Nat.le_of_ble_eq_true rfl, Nat.le_of_ble_eq_true rfl⟩) [] [0, 0, 0] [] (w_X8_change cyI cyJ cyZ cyB cyO aM aM_d aM_found aM_e aM_f aM_kept aM_tape aM_came aM_got aM_held aM_off aM_comesUp aM_comesDown aM_path aM_gets aM_gotNow aM_bitsOf aM_sizeOf aM_number aM_passing vM_isKept vM_taped vM_leaked vM_keptAll vM_offAll vM_up vM_down vM_sharesUp vM_sharesDown vM_onUp vM_onDown vM_great vM_triedOff vM_triedLeaked vM_triedKept vM_fitting vM_firstSet vM_inAll vM_inAny vM_at vM_sort vM_from vM_value vM_fault cM_d cM_found) rfl rfl rfl (by decide +kernel) rfl rfl (Nat.le_of_ble_eq_true rfl) ⟨Nat.zero_le _, Nat.zero_le _⟩ dX8_change_61 (fun H locs hP hD hS => ?_)
          refine lv_if_eq (tgt := 71) hx hb dX8_change_64 (by decide) (fun c13 => ?_) (fun c13 => ?_)
          · have h := br_pos c13 h
            refine lv_iconst (v := 0) hx hb dX8_change_71 (by decide) ?_
            exact j72 (0 : Int32) cM_d cM_found _ _ _ hP hD hS (lv_sub hl [0, 1, 2, 3] rfl) h
          · have h := br_neg c13 h
            refine lv_iconst (v := 1) hx hb dX8_change_67 (by decide) ?_
            refine lv_goto (tgt := 72) hx hb dX8_change_68 (by decide) ?_
            exact j72 (1 : Int32) cM_d cM_found _ _ _ hP hD hS (lv_sub hl [0, 1, 2, 3] rfl) h
      · have h := br_pos c10 h
        refine lv_iload_n hx hb dX8_change_38 rfl (lv_at hl 3 rfl) ?_
        refine lv_i2l hx hb dX8_change_39 rfl ?_
        refine lv_lconst (v := 0) hx hb dX8_change_40 (by decide) ?_
        refine lv_ldc2 (v := 30) hx hb hown q3 dX8_change_41 ?_
        obtain ⟨u14, hu14, h⟩ := bd_some h
        refine cl_Si (rest := []) F hK hP hD hS hA hl (t_X8_in l D cyI cyJ cyZ cyB cyO x3.toInt64 (0 : Int64) (30 : Int64) u14 hu14) (va_cwS 3 hts gX8_change_X8_in rfl rfl rfl (by decide +kernel) ⟨Nat.le_of_ble_eq_true rfl, Nat.le_of_ble_eq_true rfl⟩) [] [0, 0, 0] [] (w_X8_change cyI cyJ cyZ cyB cyO aM aM_d aM_found aM_e aM_f aM_kept aM_tape aM_came aM_got aM_held aM_off aM_comesUp aM_comesDown aM_path aM_gets aM_gotNow aM_bitsOf aM_sizeOf aM_number aM_passing vM_isKept vM_taped vM_leaked vM_keptAll vM_offAll vM_up vM_down vM_sharesUp vM_sharesDown vM_onUp vM_onDown vM_great vM_triedOff vM_triedLeaked vM_triedKept vM_fitting vM_firstSet vM_inAll vM_inAny vM_at vM_sort vM_from vM_value vM_fault cM_d cM_found) rfl rfl rfl (by decide +kernel) rfl rfl (Nat.le_of_ble_eq_true rfl) ⟨Nat.zero_le _, Nat.zero_le _⟩ dX8_change_44 (fun H locs hP hD hS => ?_)
        refine lv_goto (tgt := 72) hx hb dX8_change_47 (by decide) ?_
        exact j72 u14 cM_d cM_found _ _ _ hP hD hS (lv_sub hl [0, 1, 2, 3] rfl) h
    · have h := br_pos c9 h
      refine lv_iload_n hx hb dX8_change_21 rfl (lv_at hl 3 rfl) ?_
      refine lv_i2l hx hb dX8_change_22 rfl ?_
      refine lv_lconst (v := 1) hx hb dX8_change_23 (by decide) ?_
      refine lv_ldc2 (v := 9) hx hb hown q2 dX8_change_24 ?_
      obtain ⟨u15, hu15, h⟩ := bd_some h
      refine cl_Si (rest := []) F hK hP hD hS hA hl (t_X8_in l D cyI cyJ cyZ cyB cyO x3.toInt64 (1 : Int64) (9 : Int64) u15 hu15) (va_cwS 3 hts gX8_change_X8_in rfl rfl rfl (by decide +kernel) ⟨Nat.le_of_ble_eq_true rfl, Nat.le_of_ble_eq_true rfl⟩) [] [0, 0, 0] [] (w_X8_change cyI cyJ cyZ cyB cyO aM aM_d aM_found aM_e aM_f aM_kept aM_tape aM_came aM_got aM_held aM_off aM_comesUp aM_comesDown aM_path aM_gets aM_gotNow aM_bitsOf aM_sizeOf aM_number aM_passing vM_isKept vM_taped vM_leaked vM_keptAll vM_offAll vM_up vM_down vM_sharesUp vM_sharesDown vM_onUp vM_onDown vM_great vM_triedOff vM_triedLeaked vM_triedKept vM_fitting vM_firstSet vM_inAll vM_inAny vM_at vM_sort vM_from vM_value vM_fault cM_d cM_found) rfl rfl rfl (by decide +kernel) rfl rfl (Nat.le_of_ble_eq_true rfl) ⟨Nat.zero_le _, Nat.zero_le _⟩ dX8_change_27 (fun H locs hP hD hS => ?_)
      refine lv_goto (tgt := 72) hx hb dX8_change_30 (by decide) ?_
      exact j72 u15 cM_d cM_found _ _ _ hP hD hS (lv_sub hl [0, 1, 2, 3] rfl) h
  · have h := br_pos c8 h
    refine lv_iload_n hx hb dX8_change_4 rfl (lv_at hl 3 rfl) ?_
    refine lv_i2l hx hb dX8_change_5 rfl ?_
    refine lv_lconst (v := 0) hx hb dX8_change_6 (by decide) ?_
    refine lv_ldc2 (v := 6) hx hb hown q1 dX8_change_7 ?_
    obtain ⟨u16, hu16, h⟩ := bd_some h
    refine cl_Si (rest := []) F hK hP hD hS hA hl (t_X8_in l D cyI cyJ cyZ cyB cyO x3.toInt64 (0 : Int64) (6 : Int64) u16 hu16) (va_cwS 3 hts gX8_change_X8_in rfl rfl rfl (by decide +kernel) ⟨Nat.le_of_ble_eq_true rfl, Nat.le_of_ble_eq_true rfl⟩) [] [0, 0, 0] [] (w_X8_change cyI cyJ cyZ cyB cyO aM aM_d aM_found aM_e aM_f aM_kept aM_tape aM_came aM_got aM_held aM_off aM_comesUp aM_comesDown aM_path aM_gets aM_gotNow aM_bitsOf aM_sizeOf aM_number aM_passing vM_isKept vM_taped vM_leaked vM_keptAll vM_offAll vM_up vM_down vM_sharesUp vM_sharesDown vM_onUp vM_onDown vM_great vM_triedOff vM_triedLeaked vM_triedKept vM_fitting vM_firstSet vM_inAll vM_inAny vM_at vM_sort vM_from vM_value vM_fault cM_d cM_found) rfl rfl rfl (by decide +kernel) rfl rfl (Nat.le_of_ble_eq_true rfl) ⟨Nat.zero_le _, Nat.zero_le _⟩ dX8_change_10 (fun H locs hP hD hS => ?_)
    refine lv_goto (tgt := 72) hx hb dX8_change_13 (by decide) ?_
    exact j72 u16 cM_d cM_found _ _ _ hP hD hS (lv_sub hl [0, 1, 2, 3] rfl) h
/-! ===== X8_join ===== -/
def w_X8_join (cyI cyJ cyZ cyB cyO : ClassId) (aM aM_d aM_found aM_e aM_f aM_kept aM_tape aM_came aM_got aM_held aM_off aM_comesUp aM_comesDown aM_path aM_gets aM_gotNow aM_bitsOf aM_sizeOf aM_number aM_passing : Nat) (vM_isKept : Int32) (vM_taped : Int32) (vM_leaked : Int32) (vM_keptAll : Int32) (vM_offAll : Int32) (vM_up : Int64) (vM_down : Int64) (vM_sharesUp : Int64) (vM_sharesDown : Int64) (vM_onUp : Int64) (vM_onDown : Int64) (vM_great : Int32) (vM_triedOff : Int32) (vM_triedLeaked : Int32) (vM_triedKept : Int32) (vM_fitting : Int32) (vM_firstSet : Int32) (vM_inAll : Int32) (vM_inAny : Int32) (vM_at : Int32) (vM_sort : Int32) (vM_from : Int32) (vM_value : Int64) (vM_fault : Int32) (cM_d : Nat → Int32) (cM_found : Nat → Int32) : va_W := [(aM, .inr (7, [.ref aM_d, .ref aM_e, .ref aM_f, .ref aM_kept, .int vM_isKept, .ref aM_found, .ref aM_tape, .int vM_taped, .ref aM_came, .ref aM_got, .ref aM_held, .ref aM_off, .int vM_leaked, .int vM_keptAll, .int vM_offAll, .ref aM_comesUp, .ref aM_comesDown, .long vM_up, .long vM_down, .long vM_sharesUp, .long vM_sharesDown, .long vM_onUp, .long vM_onDown, .int vM_great, .ref aM_path, .ref aM_gets, .int vM_triedOff, .int vM_triedLeaked, .int vM_triedKept, .ref aM_gotNow, .int vM_fitting, .int vM_firstSet, .int vM_inAll, .int vM_inAny, .int vM_at, .int vM_sort, .int vM_from, .long vM_value, .int vM_fault, .ref aM_bitsOf, .ref aM_sizeOf, .ref aM_number, .ref aM_passing])), (aM_d, .inl (cyI, 64, .inl cM_d)), (aM_found, .inl (cyI, 7, .inl cM_found))]
set_option maxHeartbeats 4000000 in
set_option maxRecDepth 100000 in
theorem t_X8_join (l : Launch) (D : va_G) (cyI cyJ cyZ cyB cyO : ClassId) (aM aM_d aM_found aM_e aM_f aM_kept aM_tape aM_came aM_got aM_held aM_off aM_comesUp aM_comesDown aM_path aM_gets aM_gotNow aM_bitsOf aM_sizeOf aM_number aM_passing : Nat) (vM_isKept : Int32) (vM_taped : Int32) (vM_leaked : Int32) (vM_keptAll : Int32) (vM_offAll : Int32) (vM_up : Int64) (vM_down : Int64) (vM_sharesUp : Int64) (vM_sharesDown : Int64) (vM_onUp : Int64) (vM_onDown : Int64) (vM_great : Int32) (vM_triedOff : Int32) (vM_triedLeaked : Int32) (vM_triedKept : Int32) (vM_fitting : Int32) (vM_firstSet : Int32) (vM_inAll : Int32) (vM_inAny : Int32) (vM_at : Int32) (vM_sort : Int32) (vM_from : Int32) (vM_value : Int64) (vM_fault : Int32) (cM_d : Nat → Int32) (cM_found : Nat → Int32) (x1 : Int32) (x2 : Int32) (out : Int32 × (Nat → Int32) × (Nat → Int32)) (h : f_X8_join x1 x2 cM_d cM_found = some out) : Mi l yX8_join wsX8_join ({ frames := 2, cells := 0, slots := 0, locals := 46 } : Room) D (tyA cyI cyJ cyZ cyB cyO) [.ref aM, .int x1, .int x2] (w_X8_join cyI cyJ cyZ cyB cyO aM aM_d aM_found aM_e aM_f aM_kept aM_tape aM_came aM_got aM_held aM_off aM_comesUp aM_comesDown aM_path aM_gets aM_gotNow aM_bitsOf aM_sizeOf aM_number aM_passing vM_isKept vM_taped vM_leaked vM_keptAll vM_offAll vM_up vM_down vM_sharesUp vM_sharesDown vM_onUp vM_onDown vM_great vM_triedOff vM_triedLeaked vM_triedKept vM_fitting vM_firstSet vM_inAll vM_inAny vM_at vM_sort vM_from vM_value vM_fault cM_d cM_found) (w_X8_join cyI cyJ cyZ cyB cyO aM aM_d aM_found aM_e aM_f aM_kept aM_tape aM_came aM_got aM_held aM_off aM_comesUp aM_comesDown aM_path aM_gets aM_gotNow aM_bitsOf aM_sizeOf aM_number aM_passing vM_isKept vM_taped vM_leaked vM_keptAll vM_offAll vM_up vM_down vM_sharesUp vM_sharesDown vM_onUp vM_onDown vM_great vM_triedOff vM_triedLeaked vM_triedKept vM_fitting vM_firstSet vM_inAll vM_inAny vM_at vM_sort vM_from vM_value vM_fault out.2.1 out.2.2) out.1 := by
  refine Mi.mk (cc := cX8_join) (maxL := 4) (rt := .int) (own := RX8) (by decide) rfl rfl (Nat.le_of_ble_eq_true rfl) ?_
  intro p e s m args below meth c A Q F hK hP hD hA hret ls hl
  obtain ⟨hx, hb, hml, hown, hts⟩ := id F
  have hS : va_S A s.heap s.heap [] := va_S.rf
  have hl : lv_has ls 4 [(0, .ref aM), (1, .int x1), (2, .int x2)] := hl
  have q1 := hts (Cond.methodLink RX8 109 yX8_isBasin) (List.mem_of_getElem? (i := 1) rfl)
  have q10 := hts (Cond.methodLink RX8 115 yX8_finds) (List.mem_of_getElem? (i := 10) rfl)
  have q7 := hts (Cond.methodLink RX8 70 yX8_in) (List.mem_of_getElem? (i := 7) rfl)
  have q16 := hts (Cond.methodLink RX8 74 yX8_its) (List.mem_of_getElem? (i := 16) rfl)
  have q20 := hts (Cond.methodLink RX8 105 yX8_sets) (List.mem_of_getElem? (i := 20) rfl)
  unfold f_X8_join at h
  refine lv_aload_n hx hb dX8_join_0 rfl (lv_at hl 0 rfl) ?_
  refine lv_iload_n hx hb dX8_join_1 rfl (lv_at hl 1 rfl) ?_
  obtain ⟨u1, hu1, h⟩ := bd_some h
  refine cl_Vi (rest := []) F hK hP hD hS hA hl (t_X8_isBasin l D cyI cyJ cyZ cyB cyO aM aM_d aM_e aM_f aM_kept aM_found aM_tape aM_came aM_got aM_held aM_off aM_comesUp aM_comesDown aM_path aM_gets aM_gotNow aM_bitsOf aM_sizeOf aM_number aM_passing vM_isKept vM_taped vM_leaked vM_keptAll vM_offAll vM_up vM_down vM_sharesUp vM_sharesDown vM_onUp vM_onDown vM_great vM_triedOff vM_triedLeaked vM_triedKept vM_fitting vM_firstSet vM_inAll vM_inAny vM_at vM_sort vM_from vM_value vM_fault cM_d x1 u1 hu1) (cwV 1 hts gX8_join_X8_isBasin rfl rfl rfl (by decide +kernel) ⟨Nat.le_of_ble_eq_true rfl, Nat.le_of_ble_eq_true rfl⟩) 0 [0, 1] [1, 2, 0] [] (w_X8_join cyI cyJ cyZ cyB cyO aM aM_d aM_found aM_e aM_f aM_kept aM_tape aM_came aM_got aM_held aM_off aM_comesUp aM_comesDown aM_path aM_gets aM_gotNow aM_bitsOf aM_sizeOf aM_number aM_passing vM_isKept vM_taped vM_leaked vM_keptAll vM_offAll vM_up vM_down vM_sharesUp vM_sharesDown vM_onUp vM_onDown vM_great vM_triedOff vM_triedLeaked vM_triedKept vM_fitting vM_firstSet vM_inAll vM_inAny vM_at vM_sort vM_from vM_value vM_fault cM_d cM_found) rfl rfl rfl rfl rfl (by decide +kernel) rfl rfl (Nat.le_of_ble_eq_true rfl) ⟨Nat.zero_le _, Nat.zero_le _⟩ dX8_join_2 (fun H locs hP hD hS => ?_)
  refine lv_if_eq (tgt := 25) hx hb dX8_join_5 (by decide) (fun c2 => ?_) (fun c2 => ?_)
  · have h := br_pos c2 h
    refine lv_aload_n hx hb dX8_join_25 rfl (lv_at hl 0 rfl) ?_
    refine lv_iconst (v := 0) hx hb dX8_join_26 (by decide) ?_
    obtain ⟨u3, hu3, h⟩ := bd_some h
    refine cl_Vi (rest := []) F hK hP hD hS hA hl (t_X8_finds l D cyI cyJ cyZ cyB cyO aM aM_found aM_d aM_e aM_f aM_kept aM_tape aM_came aM_got aM_held aM_off aM_comesUp aM_comesDown aM_path aM_gets aM_gotNow aM_bitsOf aM_sizeOf aM_number aM_passing vM_isKept vM_taped vM_leaked vM_keptAll vM_offAll vM_up vM_down vM_sharesUp vM_sharesDown vM_onUp vM_onDown vM_great vM_triedOff vM_triedLeaked vM_triedKept vM_fitting vM_firstSet vM_inAll vM_inAny vM_at vM_sort vM_from vM_value vM_fault cM_found (0 : Int32) u3 hu3) (cwV 1 hts gX8_join_X8_finds rfl rfl rfl (by decide +kernel) ⟨Nat.le_of_ble_eq_true rfl, Nat.le_of_ble_eq_true rfl⟩) 0 [0, 2] [1, 0, 2] [] (w_X8_join cyI cyJ cyZ cyB cyO aM aM_d aM_found aM_e aM_f aM_kept aM_tape aM_came aM_got aM_held aM_off aM_comesUp aM_comesDown aM_path aM_gets aM_gotNow aM_bitsOf aM_sizeOf aM_number aM_passing vM_isKept vM_taped vM_leaked vM_keptAll vM_offAll vM_up vM_down vM_sharesUp vM_sharesDown vM_onUp vM_onDown vM_great vM_triedOff vM_triedLeaked vM_triedKept vM_fitting vM_firstSet vM_inAll vM_inAny vM_at vM_sort vM_from vM_value vM_fault cM_d u3.2) rfl rfl rfl rfl rfl (by decide +kernel) rfl rfl (Nat.le_of_ble_eq_true rfl) ⟨Nat.zero_le _, Nat.zero_le _⟩ dX8_join_27 (fun H locs hP hD hS => ?_)
    obtain rfl := Option.some.inj h
    exact hret _ _ _ _ _ hP hD hS dX8_join_30 rfl rfl
  · have h := br_neg c2 h
    refine lv_iload_n hx hb dX8_join_8 rfl (lv_at hl 1 rfl) ?_
    refine lv_if_eq (tgt := 25) hx hb dX8_join_9 (by decide) (fun c4 => ?_) (fun c4 => ?_)
    · have h := br_pos c4 h
      refine lv_aload_n hx hb dX8_join_25 rfl (lv_at hl 0 rfl) ?_
      refine lv_iconst (v := 0) hx hb dX8_join_26 (by decide) ?_
      obtain ⟨u5, hu5, h⟩ := bd_some h
      refine cl_Vi (rest := []) F hK hP hD hS hA hl (t_X8_finds l D cyI cyJ cyZ cyB cyO aM aM_found aM_d aM_e aM_f aM_kept aM_tape aM_came aM_got aM_held aM_off aM_comesUp aM_comesDown aM_path aM_gets aM_gotNow aM_bitsOf aM_sizeOf aM_number aM_passing vM_isKept vM_taped vM_leaked vM_keptAll vM_offAll vM_up vM_down vM_sharesUp vM_sharesDown vM_onUp vM_onDown vM_great vM_triedOff vM_triedLeaked vM_triedKept vM_fitting vM_firstSet vM_inAll vM_inAny vM_at vM_sort vM_from vM_value vM_fault cM_found (0 : Int32) u5 hu5) (cwV 1 hts gX8_join_X8_finds rfl rfl rfl (by decide +kernel) ⟨Nat.le_of_ble_eq_true rfl, Nat.le_of_ble_eq_true rfl⟩) 0 [0, 2] [1, 0, 2] [] (w_X8_join cyI cyJ cyZ cyB cyO aM aM_d aM_found aM_e aM_f aM_kept aM_tape aM_came aM_got aM_held aM_off aM_comesUp aM_comesDown aM_path aM_gets aM_gotNow aM_bitsOf aM_sizeOf aM_number aM_passing vM_isKept vM_taped vM_leaked vM_keptAll vM_offAll vM_up vM_down vM_sharesUp vM_sharesDown vM_onUp vM_onDown vM_great vM_triedOff vM_triedLeaked vM_triedKept vM_fitting vM_firstSet vM_inAll vM_inAny vM_at vM_sort vM_from vM_value vM_fault cM_d u5.2) rfl rfl rfl rfl rfl (by decide +kernel) rfl rfl (Nat.le_of_ble_eq_true rfl) ⟨Nat.zero_le _, Nat.zero_le _⟩ dX8_join_27 (fun H locs hP hD hS => ?_)
      obtain rfl := Option.some.inj h
      exact hret _ _ _ _ _ hP hD hS dX8_join_30 rfl rfl
    · have h := br_neg c4 h
      refine lv_iload_n hx hb dX8_join_12 rfl (lv_at hl 2 rfl) ?_
      refine lv_i2l hx hb dX8_join_13 rfl ?_
      refine lv_lconst (v := 0) hx hb dX8_join_14 (by decide) ?_
      refine lv_iload_n hx hb dX8_join_15 rfl (lv_at hl 1 rfl) ?_
      refine lv_iconst (v := 1) hx hb dX8_join_16 (by decide) ?_
      refine lv_isub hx hb dX8_join_17 ?_
      refine lv_i2l hx hb dX8_join_18 rfl ?_
      obtain ⟨u6, hu6, h⟩ := bd_some h
      refine cl_Si (rest := []) F hK hP hD hS hA hl (t_X8_in l D cyI cyJ cyZ cyB cyO x2.toInt64 (0 : Int64) ((x1 - (1 : Int32)).toInt64) u6 hu6) (va_cwS 3 hts gX8_join_X8_in rfl rfl rfl (by decide +kernel) ⟨Nat.le_of_ble_eq_true rfl, Nat.le_of_ble_eq_true rfl⟩) [] [0, 0, 0] [] (w_X8_join cyI cyJ cyZ cyB cyO aM aM_d aM_found aM_e aM_f aM_kept aM_tape aM_came aM_got aM_held aM_off aM_comesUp aM_comesDown aM_path aM_gets aM_gotNow aM_bitsOf aM_sizeOf aM_number aM_passing vM_isKept vM_taped vM_leaked vM_keptAll vM_offAll vM_up vM_down vM_sharesUp vM_sharesDown vM_onUp vM_onDown vM_great vM_triedOff vM_triedLeaked vM_triedKept vM_fitting vM_firstSet vM_inAll vM_inAny vM_at vM_sort vM_from vM_value vM_fault cM_d cM_found) rfl rfl rfl (by decide +kernel) rfl rfl (Nat.le_of_ble_eq_true rfl) ⟨Nat.zero_le _, Nat.zero_le _⟩ dX8_join_19 (fun H locs hP hD hS => ?_)
      refine lv_if_ne (tgt := 31) hx hb dX8_join_22 (by decide) (fun c7 => ?_) (fun c7 => ?_)
      · have h := br_neg c7 h
        refine lv_aload_n hx hb dX8_join_31 rfl (lv_at hl 0 rfl) ?_
        refine lv_iload_n hx hb dX8_join_32 rfl (lv_at hl 1 rfl) ?_
        refine lv_iconst (v := 1) hx hb dX8_join_33 (by decide) ?_
        obtain ⟨u8, hu8, h⟩ := bd_some h
        refine cl_Vi (rest := []) F hK hP hD hS hA hl (t_X8_its l D cyI cyJ cyZ cyB cyO aM aM_d aM_e aM_f aM_kept aM_found aM_tape aM_came aM_got aM_held aM_off aM_comesUp aM_comesDown aM_path aM_gets aM_gotNow aM_bitsOf aM_sizeOf aM_number aM_passing vM_isKept vM_taped vM_leaked vM_keptAll vM_offAll vM_up vM_down vM_sharesUp vM_sharesDown vM_onUp vM_onDown vM_great vM_triedOff vM_triedLeaked vM_triedKept vM_fitting vM_firstSet vM_inAll vM_inAny vM_at vM_sort vM_from vM_value vM_fault cM_d x1 (1 : Int32) u8 hu8) (cwV 2 hts gX8_join_X8_its rfl rfl rfl (by decide +kernel) ⟨Nat.le_of_ble_eq_true rfl, Nat.le_of_ble_eq_true rfl⟩) 0 [0, 1] [1, 2, 0] [] (w_X8_join cyI cyJ cyZ cyB cyO aM aM_d aM_found aM_e aM_f aM_kept aM_tape aM_came aM_got aM_held aM_off aM_comesUp aM_comesDown aM_path aM_gets aM_gotNow aM_bitsOf aM_sizeOf aM_number aM_passing vM_isKept vM_taped vM_leaked vM_keptAll vM_offAll vM_up vM_down vM_sharesUp vM_sharesDown vM_onUp vM_onDown vM_great vM_triedOff vM_triedLeaked vM_triedKept vM_fitting vM_firstSet vM_inAll vM_inAny vM_at vM_sort vM_from vM_value vM_fault cM_d cM_found) rfl rfl rfl rfl rfl (by decide +kernel) rfl rfl (Nat.le_of_ble_eq_true rfl) ⟨Nat.zero_le _, Nat.zero_le _⟩ dX8_join_34 (fun H locs hP hD hS => ?_)
        refine lv_istore_n (lv' := [(3, .int u8), (0, .ref aM), (1, .int x1), (2, .int x2)]) hx hb dX8_join_37 rfl hl (by decide) rfl (fun ls hl => ?_)
        refine lv_aload_n hx hb dX8_join_38 rfl (lv_at hl 1 rfl) ?_
        refine lv_iload_n hx hb dX8_join_39 rfl (lv_at hl 2 rfl) ?_
        refine lv_iconst (v := 1) hx hb dX8_join_40 (by decide) ?_
        refine lv_iload_n hx hb dX8_join_41 rfl (lv_at hl 3 rfl) ?_
        obtain ⟨u9, hu9, h⟩ := bd_some h
        refine cl_Vv (rest := []) F hK hP hD hS hA hl (t_X8_sets l D cyI cyJ cyZ cyB cyO aM aM_d aM_e aM_f aM_kept aM_found aM_tape aM_came aM_got aM_held aM_off aM_comesUp aM_comesDown aM_path aM_gets aM_gotNow aM_bitsOf aM_sizeOf aM_number aM_passing vM_isKept vM_taped vM_leaked vM_keptAll vM_offAll vM_up vM_down vM_sharesUp vM_sharesDown vM_onUp vM_onDown vM_great vM_triedOff vM_triedLeaked vM_triedKept vM_fitting vM_firstSet vM_inAll vM_inAny vM_at vM_sort vM_from vM_value vM_fault cM_d x1 (1 : Int32) x2 u9 hu9) (cwV 3 hts gX8_join_X8_sets rfl rfl rfl (by decide +kernel) ⟨Nat.le_of_ble_eq_true rfl, Nat.le_of_ble_eq_true rfl⟩) 0 [0, 1] [1, 2, 0] [] (w_X8_join cyI cyJ cyZ cyB cyO aM aM_d aM_found aM_e aM_f aM_kept aM_tape aM_came aM_got aM_held aM_off aM_comesUp aM_comesDown aM_path aM_gets aM_gotNow aM_bitsOf aM_sizeOf aM_number aM_passing vM_isKept vM_taped vM_leaked vM_keptAll vM_offAll vM_up vM_down vM_sharesUp vM_sharesDown vM_onUp vM_onDown vM_great vM_triedOff vM_triedLeaked vM_triedKept vM_fitting vM_firstSet vM_inAll vM_inAny vM_at vM_sort vM_from vM_value vM_fault u9 cM_found) rfl rfl rfl rfl rfl (by decide +kernel) rfl rfl (Nat.le_of_ble_eq_true rfl) ⟨Nat.zero_le _, Nat.zero_le _⟩ dX8_join_42 (fun H locs hP hD hS => ?_)
        refine lv_iload_n hx hb dX8_join_45 rfl (lv_at hl 0 rfl) ?_
        obtain rfl := Option.some.inj h
        exact hret _ _ _ _ _ hP hD hS dX8_join_46 rfl rfl
      · have h := br_pos c7 h
        refine lv_aload_n hx hb dX8_join_25 rfl (lv_at hl 0 rfl) ?_
        refine lv_iconst (v := 0) hx hb dX8_join_26 (by decide) ?_
        obtain ⟨u10, hu10, h⟩ := bd_some h
        refine cl_Vi (rest := []) F hK hP hD hS hA hl (t_X8_finds l D cyI cyJ cyZ cyB cyO aM aM_found aM_d aM_e aM_f aM_kept aM_tape aM_came aM_got aM_held aM_off aM_comesUp aM_comesDown aM_path aM_gets aM_gotNow aM_bitsOf aM_sizeOf aM_number aM_passing vM_isKept vM_taped vM_leaked vM_keptAll vM_offAll vM_up vM_down vM_sharesUp vM_sharesDown vM_onUp vM_onDown vM_great vM_triedOff vM_triedLeaked vM_triedKept vM_fitting vM_firstSet vM_inAll vM_inAny vM_at vM_sort vM_from vM_value vM_fault cM_found (0 : Int32) u10 hu10) (cwV 1 hts gX8_join_X8_finds rfl rfl rfl (by decide +kernel) ⟨Nat.le_of_ble_eq_true rfl, Nat.le_of_ble_eq_true rfl⟩) 0 [0, 2] [1, 0, 2] [] (w_X8_join cyI cyJ cyZ cyB cyO aM aM_d aM_found aM_e aM_f aM_kept aM_tape aM_came aM_got aM_held aM_off aM_comesUp aM_comesDown aM_path aM_gets aM_gotNow aM_bitsOf aM_sizeOf aM_number aM_passing vM_isKept vM_taped vM_leaked vM_keptAll vM_offAll vM_up vM_down vM_sharesUp vM_sharesDown vM_onUp vM_onDown vM_great vM_triedOff vM_triedLeaked vM_triedKept vM_fitting vM_firstSet vM_inAll vM_inAny vM_at vM_sort vM_from vM_value vM_fault cM_d u10.2) rfl rfl rfl rfl rfl (by decide +kernel) rfl rfl (Nat.le_of_ble_eq_true rfl) ⟨Nat.zero_le _, Nat.zero_le _⟩ dX8_join_27 (fun H locs hP hD hS => ?_)
        obtain rfl := Option.some.inj h
        exact hret _ _ _ _ _ hP hD hS dX8_join_30 rfl rfl
/-! ===== X8_spring ===== -/
def w_X8_spring (cyI cyJ cyZ cyB cyO : ClassId) (aM aM_d aM_found aM_e aM_f aM_kept aM_tape aM_came aM_got aM_held aM_off aM_comesUp aM_comesDown aM_path aM_gets aM_gotNow aM_bitsOf aM_sizeOf aM_number aM_passing : Nat) (vM_isKept : Int32) (vM_taped : Int32) (vM_leaked : Int32) (vM_keptAll : Int32) (vM_offAll : Int32) (vM_up : Int64) (vM_down : Int64) (vM_sharesUp : Int64) (vM_sharesDown : Int64) (vM_onUp : Int64) (vM_onDown : Int64) (vM_great : Int32) (vM_triedOff : Int32) (vM_triedLeaked : Int32) (vM_triedKept : Int32) (vM_fitting : Int32) (vM_firstSet : Int32) (vM_inAll : Int32) (vM_inAny : Int32) (vM_at : Int32) (vM_sort : Int32) (vM_from : Int32) (vM_value : Int64) (vM_fault : Int32) (cM_d : Nat → Int32) (cM_found : Nat → Int32) : va_W := [(aM, .inr (7, [.ref aM_d, .ref aM_e, .ref aM_f, .ref aM_kept, .int vM_isKept, .ref aM_found, .ref aM_tape, .int vM_taped, .ref aM_came, .ref aM_got, .ref aM_held, .ref aM_off, .int vM_leaked, .int vM_keptAll, .int vM_offAll, .ref aM_comesUp, .ref aM_comesDown, .long vM_up, .long vM_down, .long vM_sharesUp, .long vM_sharesDown, .long vM_onUp, .long vM_onDown, .int vM_great, .ref aM_path, .ref aM_gets, .int vM_triedOff, .int vM_triedLeaked, .int vM_triedKept, .ref aM_gotNow, .int vM_fitting, .int vM_firstSet, .int vM_inAll, .int vM_inAny, .int vM_at, .int vM_sort, .int vM_from, .long vM_value, .int vM_fault, .ref aM_bitsOf, .ref aM_sizeOf, .ref aM_number, .ref aM_passing])), (aM_d, .inl (cyI, 64, .inl cM_d)), (aM_found, .inl (cyI, 7, .inl cM_found))]
set_option maxHeartbeats 4000000 in
set_option maxRecDepth 100000 in
theorem t_X8_spring (l : Launch) (D : va_G) (cyI cyJ cyZ cyB cyO : ClassId) (aM aM_d aM_found aM_e aM_f aM_kept aM_tape aM_came aM_got aM_held aM_off aM_comesUp aM_comesDown aM_path aM_gets aM_gotNow aM_bitsOf aM_sizeOf aM_number aM_passing : Nat) (vM_isKept : Int32) (vM_taped : Int32) (vM_leaked : Int32) (vM_keptAll : Int32) (vM_offAll : Int32) (vM_up : Int64) (vM_down : Int64) (vM_sharesUp : Int64) (vM_sharesDown : Int64) (vM_onUp : Int64) (vM_onDown : Int64) (vM_great : Int32) (vM_triedOff : Int32) (vM_triedLeaked : Int32) (vM_triedKept : Int32) (vM_fitting : Int32) (vM_firstSet : Int32) (vM_inAll : Int32) (vM_inAny : Int32) (vM_at : Int32) (vM_sort : Int32) (vM_from : Int32) (vM_value : Int64) (vM_fault : Int32) (cM_d : Nat → Int32) (cM_found : Nat → Int32) (x1 : Int32) (out : Int32 × (Nat → Int32) × (Nat → Int32)) (h : f_X8_spring x1 cM_d cM_found = some out) : Mi l yX8_spring wsX8_spring ({ frames := 1, cells := 0, slots := 0, locals := 25 } : Room) D (tyA cyI cyJ cyZ cyB cyO) [.ref aM, .int x1] (w_X8_spring cyI cyJ cyZ cyB cyO aM aM_d aM_found aM_e aM_f aM_kept aM_tape aM_came aM_got aM_held aM_off aM_comesUp aM_comesDown aM_path aM_gets aM_gotNow aM_bitsOf aM_sizeOf aM_number aM_passing vM_isKept vM_taped vM_leaked vM_keptAll vM_offAll vM_up vM_down vM_sharesUp vM_sharesDown vM_onUp vM_onDown vM_great vM_triedOff vM_triedLeaked vM_triedKept vM_fitting vM_firstSet vM_inAll vM_inAny vM_at vM_sort vM_from vM_value vM_fault cM_d cM_found) (w_X8_spring cyI cyJ cyZ cyB cyO aM aM_d aM_found aM_e aM_f aM_kept aM_tape aM_came aM_got aM_held aM_off aM_comesUp aM_comesDown aM_path aM_gets aM_gotNow aM_bitsOf aM_sizeOf aM_number aM_passing vM_isKept vM_taped vM_leaked vM_keptAll vM_offAll vM_up vM_down vM_sharesUp vM_sharesDown vM_onUp vM_onDown vM_great vM_triedOff vM_triedLeaked vM_triedKept vM_fitting vM_firstSet vM_inAll vM_inAny vM_at vM_sort vM_from vM_value vM_fault out.2.1 out.2.2) out.1 := by
  refine Mi.mk (cc := cX8_spring) (maxL := 3) (rt := .int) (own := RX8) (by decide) rfl rfl (Nat.le_of_ble_eq_true rfl) ?_
  intro p e s m args below meth c A Q F hK hP hD hA hret ls hl
  obtain ⟨hx, hb, hml, hown, hts⟩ := id F
  have hS : va_S A s.heap s.heap [] := va_S.rf
  have hl : lv_has ls 3 [(0, .ref aM), (1, .int x1)] := hl
  have in_X8 : ∀ w ∈ wsX80, w ∈ wsX8_spring := by decide +kernel
  have q1 := hts (Cond.constantLong RX8 127 (99999)) (List.mem_of_getElem? (i := 1) rfl)
  have q3 := hts (Cond.methodLink RX8 70 yX8_in) (List.mem_of_getElem? (i := 3) rfl)
  have q2 := hts (Cond.fieldLink RX8 7 "ThirdFountainModel" "d" "[I") (List.mem_of_getElem? (i := 2) rfl)
  have q7 := hts (Cond.methodLink RX8 115 yX8_finds) (List.mem_of_getElem? (i := 7) rfl)
  unfold f_X8_spring at h
  refine lv_iload_n hx hb dX8_spring_0 rfl (lv_at hl 1 rfl) ?_
  refine lv_i2l hx hb dX8_spring_1 rfl ?_
  refine lv_lconst (v := 0) hx hb dX8_spring_2 (by decide) ?_
  refine lv_ldc2 (v := 99999) hx hb hown q1 dX8_spring_3 ?_
  obtain ⟨u1, hu1, h⟩ := bd_some h
  refine cl_Si (rest := []) F hK hP hD hS hA hl (t_X8_in l D cyI cyJ cyZ cyB cyO x1.toInt64 (0 : Int64) (99999 : Int64) u1 hu1) (va_cwS 3 hts gX8_spring_X8_in rfl rfl rfl (by decide +kernel) ⟨Nat.le_of_ble_eq_true rfl, Nat.le_of_ble_eq_true rfl⟩) [] [0, 0, 0] [] (w_X8_spring cyI cyJ cyZ cyB cyO aM aM_d aM_found aM_e aM_f aM_kept aM_tape aM_came aM_got aM_held aM_off aM_comesUp aM_comesDown aM_path aM_gets aM_gotNow aM_bitsOf aM_sizeOf aM_number aM_passing vM_isKept vM_taped vM_leaked vM_keptAll vM_offAll vM_up vM_down vM_sharesUp vM_sharesDown vM_onUp vM_onDown vM_great vM_triedOff vM_triedLeaked vM_triedKept vM_fitting vM_firstSet vM_inAll vM_inAny vM_at vM_sort vM_from vM_value vM_fault cM_d cM_found) rfl rfl rfl (by decide +kernel) rfl rfl (Nat.le_of_ble_eq_true rfl) ⟨Nat.zero_le _, Nat.zero_le _⟩ dX8_spring_6 (fun H locs hP hD hS => ?_)
  refine lv_if_ne (tgt := 18) hx hb dX8_spring_9 (by decide) (fun c2 => ?_) (fun c2 => ?_)
  · have h := br_neg c2 h
    refine lv_aload_n hx hb dX8_spring_18 rfl (lv_at hl 0 rfl) ?_
    refine va_get (D := D) (ci := 7) (v := .ref aM_d) (C := RX8) (T := TX8) (N := 43) hx hb hts in_X8 hown hK hP 0 rfl rfl 0 (by decide) q2 (fun _ h9 => h9) rfl dX8_spring_19 ?_
    refine lv_iconst (v := 3) hx hb dX8_spring_22 (by decide) ?_
    refine va_iald hx hb hK hP 1 0 rfl rfl (by unfold vp_in; decide) dX8_spring_23 ?_
    refine lv_topi (fun z3 ez3 => ?_)
    have h := nm_at ez3 h
    refine lv_istore_n (lv' := [(2, .int z3), (0, .ref aM), (1, .int x1)]) hx hb dX8_spring_24 rfl hl (by decide) rfl (fun ls hl => ?_)
    refine lv_aload_n hx hb dX8_spring_25 rfl (lv_at hl 1 rfl) ?_
    refine va_get (D := D) (ci := 7) (v := .ref aM_d) (C := RX8) (T := TX8) (N := 43) hx hb hts in_X8 hown hK hP 0 rfl rfl 0 (by decide) q2 (fun _ h9 => h9) rfl dX8_spring_26 ?_
    refine lv_iconst (v := 3) hx hb dX8_spring_29 (by decide) ?_
    refine lv_iload_n hx hb dX8_spring_30 rfl (lv_at hl 2 rfl) ?_
    refine va_iast hx hb hK hP hD hS 1 0 rfl rfl (by unfold vp_in; decide) dX8_spring_31 (fun H locs hP hD hS => ?_)
    have hP : va_P D vwCl (w_X8_spring cyI cyJ cyZ cyB cyO aM aM_d aM_found aM_e aM_f aM_kept aM_tape aM_came aM_got aM_held aM_off aM_comesUp aM_comesDown aM_path aM_gets aM_gotNow aM_bitsOf aM_sizeOf aM_number aM_passing vM_isKept vM_taped vM_leaked vM_keptAll vM_offAll vM_up vM_down vM_sharesUp vM_sharesDown vM_onUp vM_onDown vM_great vM_triedOff vM_triedLeaked vM_triedKept vM_fitting vM_firstSet vM_inAll vM_inAny vM_at vM_sort vM_from vM_value vM_fault (upd cM_d (3 : Int32).toNatClampNeg x1) cM_found) H := hP
    have hD : va_D A (w_X8_spring cyI cyJ cyZ cyB cyO aM aM_d aM_found aM_e aM_f aM_kept aM_tape aM_came aM_got aM_held aM_off aM_comesUp aM_comesDown aM_path aM_gets aM_gotNow aM_bitsOf aM_sizeOf aM_number aM_passing vM_isKept vM_taped vM_leaked vM_keptAll vM_offAll vM_up vM_down vM_sharesUp vM_sharesDown vM_onUp vM_onDown vM_great vM_triedOff vM_triedLeaked vM_triedKept vM_fitting vM_firstSet vM_inAll vM_inAny vM_at vM_sort vM_from vM_value vM_fault (upd cM_d (3 : Int32).toNatClampNeg x1) cM_found) := hD
    refine lv_iload_n hx hb dX8_spring_32 rfl (lv_at hl 0 rfl) ?_
    obtain rfl := Option.some.inj h
    exact hret _ _ _ _ _ hP hD hS dX8_spring_33 rfl rfl
  · have h := br_pos c2 h
    refine lv_aload_n hx hb dX8_spring_12 rfl (lv_at hl 0 rfl) ?_
    refine lv_iconst (v := 0) hx hb dX8_spring_13 (by decide) ?_
    obtain ⟨u4, hu4, h⟩ := bd_some h
    refine cl_Vi (rest := []) F hK hP hD hS hA hl (t_X8_finds l D cyI cyJ cyZ cyB cyO aM aM_found aM_d aM_e aM_f aM_kept aM_tape aM_came aM_got aM_held aM_off aM_comesUp aM_comesDown aM_path aM_gets aM_gotNow aM_bitsOf aM_sizeOf aM_number aM_passing vM_isKept vM_taped vM_leaked vM_keptAll vM_offAll vM_up vM_down vM_sharesUp vM_sharesDown vM_onUp vM_onDown vM_great vM_triedOff vM_triedLeaked vM_triedKept vM_fitting vM_firstSet vM_inAll vM_inAny vM_at vM_sort vM_from vM_value vM_fault cM_found (0 : Int32) u4 hu4) (cwV 1 hts gX8_spring_X8_finds rfl rfl rfl (by decide +kernel) ⟨Nat.le_of_ble_eq_true rfl, Nat.le_of_ble_eq_true rfl⟩) 0 [0, 2] [1, 0, 2] [] (w_X8_spring cyI cyJ cyZ cyB cyO aM aM_d aM_found aM_e aM_f aM_kept aM_tape aM_came aM_got aM_held aM_off aM_comesUp aM_comesDown aM_path aM_gets aM_gotNow aM_bitsOf aM_sizeOf aM_number aM_passing vM_isKept vM_taped vM_leaked vM_keptAll vM_offAll vM_up vM_down vM_sharesUp vM_sharesDown vM_onUp vM_onDown vM_great vM_triedOff vM_triedLeaked vM_triedKept vM_fitting vM_firstSet vM_inAll vM_inAny vM_at vM_sort vM_from vM_value vM_fault cM_d u4.2) rfl rfl rfl rfl rfl (by decide +kernel) rfl rfl (Nat.le_of_ble_eq_true rfl) ⟨Nat.zero_le _, Nat.zero_le _⟩ dX8_spring_14 (fun H locs hP hD hS => ?_)
    obtain rfl := Option.some.inj h
    exact hret _ _ _ _ _ hP hD hS dX8_spring_17 rfl rfl
/-! ===== X8_under ===== -/
def w_X8_under (cyI cyJ cyZ cyB cyO : ClassId) (aM aM_d aM_found aM_e aM_f aM_kept aM_tape aM_came aM_got aM_held aM_off aM_comesUp aM_comesDown aM_path aM_gets aM_gotNow aM_bitsOf aM_sizeOf aM_number aM_passing : Nat) (vM_isKept : Int32) (vM_taped : Int32) (vM_leaked : Int32) (vM_keptAll : Int32) (vM_offAll : Int32) (vM_up : Int64) (vM_down : Int64) (vM_sharesUp : Int64) (vM_sharesDown : Int64) (vM_onUp : Int64) (vM_onDown : Int64) (vM_great : Int32) (vM_triedOff : Int32) (vM_triedLeaked : Int32) (vM_triedKept : Int32) (vM_fitting : Int32) (vM_firstSet : Int32) (vM_inAll : Int32) (vM_inAny : Int32) (vM_at : Int32) (vM_sort : Int32) (vM_from : Int32) (vM_value : Int64) (vM_fault : Int32) (cM_d : Nat → Int32) (cM_found : Nat → Int32) : va_W := [(aM, .inr (7, [.ref aM_d, .ref aM_e, .ref aM_f, .ref aM_kept, .int vM_isKept, .ref aM_found, .ref aM_tape, .int vM_taped, .ref aM_came, .ref aM_got, .ref aM_held, .ref aM_off, .int vM_leaked, .int vM_keptAll, .int vM_offAll, .ref aM_comesUp, .ref aM_comesDown, .long vM_up, .long vM_down, .long vM_sharesUp, .long vM_sharesDown, .long vM_onUp, .long vM_onDown, .int vM_great, .ref aM_path, .ref aM_gets, .int vM_triedOff, .int vM_triedLeaked, .int vM_triedKept, .ref aM_gotNow, .int vM_fitting, .int vM_firstSet, .int vM_inAll, .int vM_inAny, .int vM_at, .int vM_sort, .int vM_from, .long vM_value, .int vM_fault, .ref aM_bitsOf, .ref aM_sizeOf, .ref aM_number, .ref aM_passing])), (aM_d, .inl (cyI, 64, .inl cM_d)), (aM_found, .inl (cyI, 7, .inl cM_found))]
set_option maxHeartbeats 4000000 in
set_option maxRecDepth 100000 in
theorem t_X8_under (l : Launch) (D : va_G) (cyI cyJ cyZ cyB cyO : ClassId) (aM aM_d aM_found aM_e aM_f aM_kept aM_tape aM_came aM_got aM_held aM_off aM_comesUp aM_comesDown aM_path aM_gets aM_gotNow aM_bitsOf aM_sizeOf aM_number aM_passing : Nat) (vM_isKept : Int32) (vM_taped : Int32) (vM_leaked : Int32) (vM_keptAll : Int32) (vM_offAll : Int32) (vM_up : Int64) (vM_down : Int64) (vM_sharesUp : Int64) (vM_sharesDown : Int64) (vM_onUp : Int64) (vM_onDown : Int64) (vM_great : Int32) (vM_triedOff : Int32) (vM_triedLeaked : Int32) (vM_triedKept : Int32) (vM_fitting : Int32) (vM_firstSet : Int32) (vM_inAll : Int32) (vM_inAny : Int32) (vM_at : Int32) (vM_sort : Int32) (vM_from : Int32) (vM_value : Int64) (vM_fault : Int32) (cM_d : Nat → Int32) (cM_found : Nat → Int32) (x1 : Int32) (x2 : Int32) (out : Int32 × (Nat → Int32)) (h : f_X8_under x1 x2 cM_d cM_found = some out) : Mi l yX8_under wsX8_under ({ frames := 2, cells := 0, slots := 0, locals := 46 } : Room) D (tyA cyI cyJ cyZ cyB cyO) [.ref aM, .int x1, .int x2] (w_X8_under cyI cyJ cyZ cyB cyO aM aM_d aM_found aM_e aM_f aM_kept aM_tape aM_came aM_got aM_held aM_off aM_comesUp aM_comesDown aM_path aM_gets aM_gotNow aM_bitsOf aM_sizeOf aM_number aM_passing vM_isKept vM_taped vM_leaked vM_keptAll vM_offAll vM_up vM_down vM_sharesUp vM_sharesDown vM_onUp vM_onDown vM_great vM_triedOff vM_triedLeaked vM_triedKept vM_fitting vM_firstSet vM_inAll vM_inAny vM_at vM_sort vM_from vM_value vM_fault cM_d cM_found) (w_X8_under cyI cyJ cyZ cyB cyO aM aM_d aM_found aM_e aM_f aM_kept aM_tape aM_came aM_got aM_held aM_off aM_comesUp aM_comesDown aM_path aM_gets aM_gotNow aM_bitsOf aM_sizeOf aM_number aM_passing vM_isKept vM_taped vM_leaked vM_keptAll vM_offAll vM_up vM_down vM_sharesUp vM_sharesDown vM_onUp vM_onDown vM_great vM_triedOff vM_triedLeaked vM_triedKept vM_fitting vM_firstSet vM_inAll vM_inAny vM_at vM_sort vM_from vM_value vM_fault cM_d out.2) out.1 := by
  refine Mi.mk (cc := cX8_under) (maxL := 7) (rt := .int) (own := RX8) (by decide) rfl rfl (Nat.le_of_ble_eq_true rfl) ?_
  intro p e s m args below meth c A Q F hK hP hD hA hret ls hl
  obtain ⟨hx, hb, hml, hown, hts⟩ := id F
  have hS : va_S A s.heap s.heap [] := va_S.rf
  have hl : lv_has ls 7 [(0, .ref aM), (1, .int x1), (2, .int x2)] := hl
  have in_X8 : ∀ w ∈ wsX80, w ∈ wsX8_under := by decide +kernel
  have q2 := hts (Cond.methodLink RX8 109 yX8_isBasin) (List.mem_of_getElem? (i := 2) rfl)
  have q10 := hts (Cond.methodLink RX8 115 yX8_finds) (List.mem_of_getElem? (i := 10) rfl)
  have q7 := hts (Cond.methodLink RX8 70 yX8_in) (List.mem_of_getElem? (i := 7) rfl)
  have q1 := hts (Cond.fieldLink RX8 7 "ThirdFountainModel" "d" "[I") (List.mem_of_getElem? (i := 1) rfl)
  have q16 := hts (Cond.methodLink RX8 74 yX8_its) (List.mem_of_getElem? (i := 16) rfl)
  unfold f_X8_under at h
  refine lv_aload_n hx hb dX8_under_0 rfl (lv_at hl 0 rfl) ?_
  refine lv_iload_n hx hb dX8_under_1 rfl (lv_at hl 1 rfl) ?_
  obtain ⟨u1, hu1, h⟩ := bd_some h
  refine cl_Vi (rest := []) F hK hP hD hS hA hl (t_X8_isBasin l D cyI cyJ cyZ cyB cyO aM aM_d aM_e aM_f aM_kept aM_found aM_tape aM_came aM_got aM_held aM_off aM_comesUp aM_comesDown aM_path aM_gets aM_gotNow aM_bitsOf aM_sizeOf aM_number aM_passing vM_isKept vM_taped vM_leaked vM_keptAll vM_offAll vM_up vM_down vM_sharesUp vM_sharesDown vM_onUp vM_onDown vM_great vM_triedOff vM_triedLeaked vM_triedKept vM_fitting vM_firstSet vM_inAll vM_inAny vM_at vM_sort vM_from vM_value vM_fault cM_d x1 u1 hu1) (cwV 1 hts gX8_under_X8_isBasin rfl rfl rfl (by decide +kernel) ⟨Nat.le_of_ble_eq_true rfl, Nat.le_of_ble_eq_true rfl⟩) 0 [0, 1] [1, 2, 0] [] (w_X8_under cyI cyJ cyZ cyB cyO aM aM_d aM_found aM_e aM_f aM_kept aM_tape aM_came aM_got aM_held aM_off aM_comesUp aM_comesDown aM_path aM_gets aM_gotNow aM_bitsOf aM_sizeOf aM_number aM_passing vM_isKept vM_taped vM_leaked vM_keptAll vM_offAll vM_up vM_down vM_sharesUp vM_sharesDown vM_onUp vM_onDown vM_great vM_triedOff vM_triedLeaked vM_triedKept vM_fitting vM_firstSet vM_inAll vM_inAny vM_at vM_sort vM_from vM_value vM_fault cM_d cM_found) rfl rfl rfl rfl rfl (by decide +kernel) rfl rfl (Nat.le_of_ble_eq_true rfl) ⟨Nat.zero_le _, Nat.zero_le _⟩ dX8_under_2 (fun H locs hP hD hS => ?_)
  refine lv_if_eq (tgt := 18) hx hb dX8_under_5 (by decide) (fun c2 => ?_) (fun c2 => ?_)
  · have h := br_pos c2 h
    refine lv_aload_n hx hb dX8_under_18 rfl (lv_at hl 0 rfl) ?_
    refine lv_iconst (v := 0) hx hb dX8_under_19 (by decide) ?_
    obtain ⟨u3, hu3, h⟩ := bd_some h
    refine cl_Vi (rest := []) F hK hP hD hS hA hl (t_X8_finds l D cyI cyJ cyZ cyB cyO aM aM_found aM_d aM_e aM_f aM_kept aM_tape aM_came aM_got aM_held aM_off aM_comesUp aM_comesDown aM_path aM_gets aM_gotNow aM_bitsOf aM_sizeOf aM_number aM_passing vM_isKept vM_taped vM_leaked vM_keptAll vM_offAll vM_up vM_down vM_sharesUp vM_sharesDown vM_onUp vM_onDown vM_great vM_triedOff vM_triedLeaked vM_triedKept vM_fitting vM_firstSet vM_inAll vM_inAny vM_at vM_sort vM_from vM_value vM_fault cM_found (0 : Int32) u3 hu3) (cwV 1 hts gX8_under_X8_finds rfl rfl rfl (by decide +kernel) ⟨Nat.le_of_ble_eq_true rfl, Nat.le_of_ble_eq_true rfl⟩) 0 [0, 2] [1, 0, 2] [] (w_X8_under cyI cyJ cyZ cyB cyO aM aM_d aM_found aM_e aM_f aM_kept aM_tape aM_came aM_got aM_held aM_off aM_comesUp aM_comesDown aM_path aM_gets aM_gotNow aM_bitsOf aM_sizeOf aM_number aM_passing vM_isKept vM_taped vM_leaked vM_keptAll vM_offAll vM_up vM_down vM_sharesUp vM_sharesDown vM_onUp vM_onDown vM_great vM_triedOff vM_triedLeaked vM_triedKept vM_fitting vM_firstSet vM_inAll vM_inAny vM_at vM_sort vM_from vM_value vM_fault cM_d u3.2) rfl rfl rfl rfl rfl (by decide +kernel) rfl rfl (Nat.le_of_ble_eq_true rfl) ⟨Nat.zero_le _, Nat.zero_le _⟩ dX8_under_20 (fun H locs hP hD hS => ?_)
    obtain rfl := Option.some.inj h
    exact hret _ _ _ _ _ hP hD hS dX8_under_23 rfl rfl
  · have h := br_neg c2 h
    refine lv_iload_n hx hb dX8_under_8 rfl (lv_at hl 2 rfl) ?_
    refine lv_i2l hx hb dX8_under_9 rfl ?_
    refine lv_lconst (v := 0) hx hb dX8_under_10 (by decide) ?_
    refine lv_lconst (v := 1) hx hb dX8_under_11 (by decide) ?_
    obtain ⟨u4, hu4, h⟩ := bd_some h
    refine cl_Si (rest := []) F hK hP hD hS hA hl (t_X8_in l D cyI cyJ cyZ cyB cyO x2.toInt64 (0 : Int64) (1 : Int64) u4 hu4) (va_cwS 3 hts gX8_under_X8_in rfl rfl rfl (by decide +kernel) ⟨Nat.le_of_ble_eq_true rfl, Nat.le_of_ble_eq_true rfl⟩) [] [0, 0, 0] [] (w_X8_under cyI cyJ cyZ cyB cyO aM aM_d aM_found aM_e aM_f aM_kept aM_tape aM_came aM_got aM_held aM_off aM_comesUp aM_comesDown aM_path aM_gets aM_gotNow aM_bitsOf aM_sizeOf aM_number aM_passing vM_isKept vM_taped vM_leaked vM_keptAll vM_offAll vM_up vM_down vM_sharesUp vM_sharesDown vM_onUp vM_onDown vM_great vM_triedOff vM_triedLeaked vM_triedKept vM_fitting vM_firstSet vM_inAll vM_inAny vM_at vM_sort vM_from vM_value vM_fault cM_d cM_found) rfl rfl rfl (by decide +kernel) rfl rfl (Nat.le_of_ble_eq_true rfl) ⟨Nat.zero_le _, Nat.zero_le _⟩ dX8_under_12 (fun H locs hP hD hS => ?_)
    refine lv_if_ne (tgt := 24) hx hb dX8_under_15 (by decide) (fun c5 => ?_) (fun c5 => ?_)
    · have h := br_neg c5 h
      refine lv_iconst (v := 0) hx hb dX8_under_24 (by decide) ?_
      refine lv_istore_n (lv' := [(3, .int (0 : Int32)), (0, .ref aM), (1, .int x1), (2, .int x2)]) hx hb dX8_under_25 rfl hl (by decide) rfl (fun ls hl => ?_)
      refine lv_iload_n hx hb dX8_under_26 rfl (lv_at hl 2 rfl) ?_
      refine lv_iconst (v := 1) hx hb dX8_under_27 (by decide) ?_
      refine lv_iadd hx hb dX8_under_28 ?_
      refine lv_topi (fun z6 ez6 => ?_)
      have h := nm_at ez6 h
      refine lv_istore (lv' := [(4, .int z6), (3, .int (0 : Int32)), (0, .ref aM), (1, .int x1), (2, .int x2)]) hx hb dX8_under_29 hl (by decide) rfl (fun ls hl => ?_)
      have lp31 : ∀ (k31 : Nat) (y3 : Int32) (y4 : Int32) (cM_found : Nat → Int32) (H : Heap) (locs : List Loc) (ls : Array Slot), va_P D vwCl (w_X8_under cyI cyJ cyZ cyB cyO aM aM_d aM_found aM_e aM_f aM_kept aM_tape aM_came aM_got aM_held aM_off aM_comesUp aM_comesDown aM_path aM_gets aM_gotNow aM_bitsOf aM_sizeOf aM_number aM_passing vM_isKept vM_taped vM_leaked vM_keptAll vM_offAll vM_up vM_down vM_sharesUp vM_sharesDown vM_onUp vM_onDown vM_great vM_triedOff vM_triedLeaked vM_triedKept vM_fitting vM_firstSet vM_inAll vM_inAny vM_at vM_sort vM_from vM_value vM_fault cM_d cM_found) H → va_D A (w_X8_under cyI cyJ cyZ cyB cyO aM aM_d aM_found aM_e aM_f aM_kept aM_tape aM_came aM_got aM_held aM_off aM_comesUp aM_comesDown aM_path aM_gets aM_gotNow aM_bitsOf aM_sizeOf aM_number aM_passing vM_isKept vM_taped vM_leaked vM_keptAll vM_offAll vM_up vM_down vM_sharesUp vM_sharesDown vM_onUp vM_onDown vM_great vM_triedOff vM_triedLeaked vM_triedKept vM_fitting vM_firstSet vM_inAll vM_inAny vM_at vM_sort vM_from vM_value vM_fault cM_d cM_found) → va_S A s.heap H locs → lv_has ls 7 [(3, .int y3), (4, .int y4), (0, .ref aM), (1, .int x1), (2, .int x2)] → (f_X8_under_L31 x1 x2 cM_d k31) (y3, y4, cM_found) = some out → W p l e ({ frames := 2, cells := 0, slots := 0, locals := 46 } : Room) s m args below meth c H locs 0 0 Q (F0 m 31 ls []) := by
        intro k31
        induction k31 with
        | zero => intro y3 y4 cM_found H locs ls hP hD hS hl h; cases h
        | succ k31 ih31 =>
          intro y3 y4 cM_found H locs ls hP hD hS hl h
          have h : f_X8_under_L31_b x1 x2 cM_d (f_X8_under_L31 x1 x2 cM_d k31) y3 y4 cM_found = some out := h
          unfold f_X8_under_L31_b at h
          refine lv_iload hx hb dX8_under_31 (lv_at hl 1 rfl) ?_
          refine lv_aload_n hx hb dX8_under_33 rfl (lv_at hl 2 rfl) ?_
          refine va_get (D := D) (ci := 7) (v := .ref aM_d) (C := RX8) (T := TX8) (N := 43) hx hb hts in_X8 hown hK hP 0 rfl rfl 0 (by decide) q1 (fun _ h9 => h9) rfl dX8_under_34 ?_
          refine lv_iconst (v := 0) hx hb dX8_under_37 (by decide) ?_
          refine va_iald hx hb hK hP 1 0 rfl rfl (by unfold vp_in; decide) dX8_under_38 ?_
          refine lv_icmp_ge (tgt := 101) hx hb dX8_under_39 (by decide) (fun c7 => ?_) (fun c7 => ?_)
          · have h := br_pos c7 h
            refine lv_iload_n hx hb dX8_under_101 rfl (lv_at hl 0 rfl) ?_
            obtain rfl := Option.some.inj h
            exact hret _ _ _ _ _ hP hD hS dX8_under_102 rfl rfl
          · have h := br_neg c7 h
            refine lv_aload_n hx hb dX8_under_42 rfl (lv_at hl 2 rfl) ?_
            refine lv_iload hx hb dX8_under_43 (lv_at hl 1 rfl) ?_
            refine lv_iconst (v := 1) hx hb dX8_under_45 (by decide) ?_
            obtain ⟨u8, hu8, h⟩ := bd_some h
            refine cl_Vi (rest := []) F hK hP hD hS hA hl (t_X8_its l D cyI cyJ cyZ cyB cyO aM aM_d aM_e aM_f aM_kept aM_found aM_tape aM_came aM_got aM_held aM_off aM_comesUp aM_comesDown aM_path aM_gets aM_gotNow aM_bitsOf aM_sizeOf aM_number aM_passing vM_isKept vM_taped vM_leaked vM_keptAll vM_offAll vM_up vM_down vM_sharesUp vM_sharesDown vM_onUp vM_onDown vM_great vM_triedOff vM_triedLeaked vM_triedKept vM_fitting vM_firstSet vM_inAll vM_inAny vM_at vM_sort vM_from vM_value vM_fault cM_d y4 (1 : Int32) u8 hu8) (cwV 2 hts gX8_under_X8_its rfl rfl rfl (by decide +kernel) ⟨Nat.le_of_ble_eq_true rfl, Nat.le_of_ble_eq_true rfl⟩) 0 [0, 1] [1, 2, 0] [] (w_X8_under cyI cyJ cyZ cyB cyO aM aM_d aM_found aM_e aM_f aM_kept aM_tape aM_came aM_got aM_held aM_off aM_comesUp aM_comesDown aM_path aM_gets aM_gotNow aM_bitsOf aM_sizeOf aM_number aM_passing vM_isKept vM_taped vM_leaked vM_keptAll vM_offAll vM_up vM_down vM_sharesUp vM_sharesDown vM_onUp vM_onDown vM_great vM_triedOff vM_triedLeaked vM_triedKept vM_fitting vM_firstSet vM_inAll vM_inAny vM_at vM_sort vM_from vM_value vM_fault cM_d cM_found) rfl rfl rfl rfl rfl (by decide +kernel) rfl rfl (Nat.le_of_ble_eq_true rfl) ⟨Nat.zero_le _, Nat.zero_le _⟩ dX8_under_46 (fun H locs hP hD hS => ?_)
            refine lv_istore (lv' := [(5, .int u8), (3, .int y3), (4, .int y4), (0, .ref aM), (1, .int x1), (2, .int x2)]) hx hb dX8_under_49 hl (by decide) rfl (fun ls hl => ?_)
            refine lv_iload hx hb dX8_under_51 (lv_at hl 0 rfl) ?_
            refine lv_iload_n hx hb dX8_under_53 rfl (lv_at hl 4 rfl) ?_
            have j77 : ∀ (y3 : Int32) (y4 : Int32) (t0 : Int32) (cM_found : Nat → Int32) (H : Heap) (locs : List Loc) (ls : Array Slot), va_P D vwCl (w_X8_under cyI cyJ cyZ cyB cyO aM aM_d aM_found aM_e aM_f aM_kept aM_tape aM_came aM_got aM_held aM_off aM_comesUp aM_comesDown aM_path aM_gets aM_gotNow aM_bitsOf aM_sizeOf aM_number aM_passing vM_isKept vM_taped vM_leaked vM_keptAll vM_offAll vM_up vM_down vM_sharesUp vM_sharesDown vM_onUp vM_onDown vM_great vM_triedOff vM_triedLeaked vM_triedKept vM_fitting vM_firstSet vM_inAll vM_inAny vM_at vM_sort vM_from vM_value vM_fault cM_d cM_found) H → va_D A (w_X8_under cyI cyJ cyZ cyB cyO aM aM_d aM_found aM_e aM_f aM_kept aM_tape aM_came aM_got aM_held aM_off aM_comesUp aM_comesDown aM_path aM_gets aM_gotNow aM_bitsOf aM_sizeOf aM_number aM_passing vM_isKept vM_taped vM_leaked vM_keptAll vM_offAll vM_up vM_down vM_sharesUp vM_sharesDown vM_onUp vM_onDown vM_great vM_triedOff vM_triedLeaked vM_triedKept vM_fitting vM_firstSet vM_inAll vM_inAny vM_at vM_sort vM_from vM_value vM_fault cM_d cM_found) → va_S A s.heap H locs → lv_has ls 7 [(3, .int y3), (4, .int y4), (0, .ref aM), (1, .int x1), (2, .int x2)] → f_X8_under_J77 x1 x2 cM_d (f_X8_under_L31 x1 x2 cM_d k31) y3 y4 t0 cM_found = some out → W p l e ({ frames := 2, cells := 0, slots := 0, locals := 46 } : Room) s m args below meth c H locs 0 0 Q (F0 m 77 ls [.int t0]) := by
              intro y3 y4 t0 cM_found H locs ls hP hD hS hl h
              unfold f_X8_under_J77 at h
              refine lv_istore (lv' := [(6, .int t0), (3, .int y3), (4, .int y4), (0, .ref aM), (1, .int x1), (2, .int x2)]) hx hb dX8_under_77 hl (by decide) rfl (fun ls hl => ?_)
              refine lv_iload_n hx hb dX8_under_79 rfl (lv_at hl 1 rfl) ?_
              refine lv_iload hx hb dX8_under_80 (lv_at hl 0 rfl) ?_
              refine lv_if_eq (tgt := 92) hx hb dX8_under_82 (by decide) (fun c9 => ?_) (fun c9 => ?_)
              · have h := br_pos c9 h
                refine lv_iconst (v := 0) hx hb dX8_under_92 (by decide) ?_
                refine lv_ior hx hb dX8_under_93 ?_
                refine lv_topi (fun z10 ez10 => ?_)
                have h := nm_at ez10 h
                refine lv_istore_n (lv' := [(3, .int z10), (6, .int t0), (4, .int y4), (0, .ref aM), (1, .int x1), (2, .int x2)]) hx hb dX8_under_94 rfl hl (by decide) rfl (fun ls hl => ?_)
                refine lv_iinc (v := y4 + 1) (lv' := [(4, .int (y4 + 1)), (3, .int z10), (6, .int t0), (0, .ref aM), (1, .int x1), (2, .int x2)]) hx hb dX8_under_95 hl (k := 2) rfl rfl (by decide) rfl (fun ls hl => ?_)
                refine lv_goto (tgt := 31) hx hb dX8_under_98 (by decide) ?_
                exact ih31 z10 (y4 + 1) cM_found _ _ _ hP hD hS (lv_sub hl [1, 0, 3, 4, 5] rfl) h
              · have h := br_neg c9 h
                refine lv_iconst (v := 1) hx hb dX8_under_85 (by decide) ?_
                refine lv_iload hx hb dX8_under_86 (lv_at hl 2 rfl) ?_
                refine lv_ishl hx hb dX8_under_88 ?_
                refine lv_goto (tgt := 93) hx hb dX8_under_89 (by decide) ?_
                refine lv_ior hx hb dX8_under_93 ?_
                refine lv_topi (fun z11 ez11 => ?_)
                have h := nm_at ez11 h
                refine lv_istore_n (lv' := [(3, .int z11), (6, .int t0), (4, .int y4), (0, .ref aM), (1, .int x1), (2, .int x2)]) hx hb dX8_under_94 rfl hl (by decide) rfl (fun ls hl => ?_)
                refine lv_iinc (v := y4 + 1) (lv' := [(4, .int (y4 + 1)), (3, .int z11), (6, .int t0), (0, .ref aM), (1, .int x1), (2, .int x2)]) hx hb dX8_under_95 hl (k := 2) rfl rfl (by decide) rfl (fun ls hl => ?_)
                refine lv_goto (tgt := 31) hx hb dX8_under_98 (by decide) ?_
                exact ih31 z11 (y4 + 1) cM_found _ _ _ hP hD hS (lv_sub hl [1, 0, 3, 4, 5] rfl) h
            refine lv_icmp_eq (tgt := 72) hx hb dX8_under_54 (by decide) (fun c12 => ?_) (fun c12 => ?_)
            · have h := br_pos c12 h
              refine lv_iconst (v := 1) hx hb dX8_under_72 (by decide) ?_
              refine lv_goto (tgt := 77) hx hb dX8_under_73 (by decide) ?_
              exact j77 y3 y4 (1 : Int32) cM_found _ _ _ hP hD hS (lv_sub hl [1, 2, 3, 4, 5] rfl) h
            · have h := br_neg c12 h
              refine lv_iload_n hx hb dX8_under_57 rfl (lv_at hl 5 rfl) ?_
              refine lv_iconst (v := 1) hx hb dX8_under_58 (by decide) ?_
              refine lv_icmp_ne (tgt := 76) hx hb dX8_under_59 (by decide) (fun c13 => ?_) (fun c13 => ?_)
              · have h := br_neg c13 h
                refine lv_iconst (v := 0) hx hb dX8_under_76 (by decide) ?_
                exact j77 y3 y4 (0 : Int32) cM_found _ _ _ hP hD hS (lv_sub hl [1, 2, 3, 4, 5] rfl) h
              · have h := br_pos c13 h
                refine lv_iload_n hx hb dX8_under_62 rfl (lv_at hl 1 rfl) ?_
                refine lv_iload hx hb dX8_under_63 (lv_at hl 0 rfl) ?_
                refine lv_ishr hx hb dX8_under_65 ?_
                refine lv_iconst (v := 1) hx hb dX8_under_66 (by decide) ?_
                refine lv_iand hx hb dX8_under_67 ?_
                refine lv_iconst (v := 1) hx hb dX8_under_68 (by decide) ?_
                refine lv_icmp_ne (tgt := 76) hx hb dX8_under_69 (by decide) (fun c14 => ?_) (fun c14 => ?_)
                · have h := br_neg c14 h
                  refine lv_iconst (v := 0) hx hb dX8_under_76 (by decide) ?_
                  exact j77 y3 y4 (0 : Int32) cM_found _ _ _ hP hD hS (lv_sub hl [1, 2, 3, 4, 5] rfl) h
                · have h := br_pos c14 h
                  refine lv_iconst (v := 1) hx hb dX8_under_72 (by decide) ?_
                  refine lv_goto (tgt := 77) hx hb dX8_under_73 (by decide) ?_
                  exact j77 y3 y4 (1 : Int32) cM_found _ _ _ hP hD hS (lv_sub hl [1, 2, 3, 4, 5] rfl) h
      exact lp31 FU (0 : Int32) z6 cM_found _ _ _ hP hD hS (lv_sub hl [1, 0, 2, 3, 4] rfl) h
    · have h := br_pos c5 h
      refine lv_aload_n hx hb dX8_under_18 rfl (lv_at hl 0 rfl) ?_
      refine lv_iconst (v := 0) hx hb dX8_under_19 (by decide) ?_
      obtain ⟨u15, hu15, h⟩ := bd_some h
      refine cl_Vi (rest := []) F hK hP hD hS hA hl (t_X8_finds l D cyI cyJ cyZ cyB cyO aM aM_found aM_d aM_e aM_f aM_kept aM_tape aM_came aM_got aM_held aM_off aM_comesUp aM_comesDown aM_path aM_gets aM_gotNow aM_bitsOf aM_sizeOf aM_number aM_passing vM_isKept vM_taped vM_leaked vM_keptAll vM_offAll vM_up vM_down vM_sharesUp vM_sharesDown vM_onUp vM_onDown vM_great vM_triedOff vM_triedLeaked vM_triedKept vM_fitting vM_firstSet vM_inAll vM_inAny vM_at vM_sort vM_from vM_value vM_fault cM_found (0 : Int32) u15 hu15) (cwV 1 hts gX8_under_X8_finds rfl rfl rfl (by decide +kernel) ⟨Nat.le_of_ble_eq_true rfl, Nat.le_of_ble_eq_true rfl⟩) 0 [0, 2] [1, 0, 2] [] (w_X8_under cyI cyJ cyZ cyB cyO aM aM_d aM_found aM_e aM_f aM_kept aM_tape aM_came aM_got aM_held aM_off aM_comesUp aM_comesDown aM_path aM_gets aM_gotNow aM_bitsOf aM_sizeOf aM_number aM_passing vM_isKept vM_taped vM_leaked vM_keptAll vM_offAll vM_up vM_down vM_sharesUp vM_sharesDown vM_onUp vM_onDown vM_great vM_triedOff vM_triedLeaked vM_triedKept vM_fitting vM_firstSet vM_inAll vM_inAny vM_at vM_sort vM_from vM_value vM_fault cM_d u15.2) rfl rfl rfl rfl rfl (by decide +kernel) rfl rfl (Nat.le_of_ble_eq_true rfl) ⟨Nat.zero_le _, Nat.zero_le _⟩ dX8_under_20 (fun H locs hP hD hS => ?_)
      obtain rfl := Option.some.inj h
      exact hret _ _ _ _ _ hP hD hS dX8_under_23 rfl rfl
/-! ===== X8_steps ===== -/
def w_X8_steps (cyI cyJ cyZ cyB cyO : ClassId) (aM aM_d aM_found aM_e aM_f aM_kept aM_tape aM_came aM_got aM_held aM_off aM_comesUp aM_comesDown aM_path aM_gets aM_gotNow aM_bitsOf aM_sizeOf aM_number aM_passing : Nat) (vM_isKept : Int32) (vM_taped : Int32) (vM_leaked : Int32) (vM_keptAll : Int32) (vM_offAll : Int32) (vM_up : Int64) (vM_down : Int64) (vM_sharesUp : Int64) (vM_sharesDown : Int64) (vM_onUp : Int64) (vM_onDown : Int64) (vM_great : Int32) (vM_triedOff : Int32) (vM_triedLeaked : Int32) (vM_triedKept : Int32) (vM_fitting : Int32) (vM_firstSet : Int32) (vM_inAll : Int32) (vM_inAny : Int32) (vM_at : Int32) (vM_sort : Int32) (vM_from : Int32) (vM_value : Int64) (vM_fault : Int32) (cM_d : Nat → Int32) (cM_found : Nat → Int32) : va_W := [(aM, .inr (7, [.ref aM_d, .ref aM_e, .ref aM_f, .ref aM_kept, .int vM_isKept, .ref aM_found, .ref aM_tape, .int vM_taped, .ref aM_came, .ref aM_got, .ref aM_held, .ref aM_off, .int vM_leaked, .int vM_keptAll, .int vM_offAll, .ref aM_comesUp, .ref aM_comesDown, .long vM_up, .long vM_down, .long vM_sharesUp, .long vM_sharesDown, .long vM_onUp, .long vM_onDown, .int vM_great, .ref aM_path, .ref aM_gets, .int vM_triedOff, .int vM_triedLeaked, .int vM_triedKept, .ref aM_gotNow, .int vM_fitting, .int vM_firstSet, .int vM_inAll, .int vM_inAny, .int vM_at, .int vM_sort, .int vM_from, .long vM_value, .int vM_fault, .ref aM_bitsOf, .ref aM_sizeOf, .ref aM_number, .ref aM_passing])), (aM_d, .inl (cyI, 64, .inl cM_d)), (aM_found, .inl (cyI, 7, .inl cM_found))]
set_option maxHeartbeats 4000000 in
set_option maxRecDepth 100000 in
theorem t_X8_steps (l : Launch) (D : va_G) (cyI cyJ cyZ cyB cyO : ClassId) (aM aM_d aM_found aM_e aM_f aM_kept aM_tape aM_came aM_got aM_held aM_off aM_comesUp aM_comesDown aM_path aM_gets aM_gotNow aM_bitsOf aM_sizeOf aM_number aM_passing : Nat) (vM_isKept : Int32) (vM_taped : Int32) (vM_leaked : Int32) (vM_keptAll : Int32) (vM_offAll : Int32) (vM_up : Int64) (vM_down : Int64) (vM_sharesUp : Int64) (vM_sharesDown : Int64) (vM_onUp : Int64) (vM_onDown : Int64) (vM_great : Int32) (vM_triedOff : Int32) (vM_triedLeaked : Int32) (vM_triedKept : Int32) (vM_fitting : Int32) (vM_firstSet : Int32) (vM_inAll : Int32) (vM_inAny : Int32) (vM_at : Int32) (vM_sort : Int32) (vM_from : Int32) (vM_value : Int64) (vM_fault : Int32) (cM_d : Nat → Int32) (cM_found : Nat → Int32) (x1 : Int32) (out : Int32 × (Nat → Int32)) (h : f_X8_steps x1 cM_d cM_found = some out) : Mi l yX8_steps wsX8_steps ({ frames := 2, cells := 0, slots := 0, locals := 46 } : Room) D (tyA cyI cyJ cyZ cyB cyO) [.ref aM, .int x1] (w_X8_steps cyI cyJ cyZ cyB cyO aM aM_d aM_found aM_e aM_f aM_kept aM_tape aM_came aM_got aM_held aM_off aM_comesUp aM_comesDown aM_path aM_gets aM_gotNow aM_bitsOf aM_sizeOf aM_number aM_passing vM_isKept vM_taped vM_leaked vM_keptAll vM_offAll vM_up vM_down vM_sharesUp vM_sharesDown vM_onUp vM_onDown vM_great vM_triedOff vM_triedLeaked vM_triedKept vM_fitting vM_firstSet vM_inAll vM_inAny vM_at vM_sort vM_from vM_value vM_fault cM_d cM_found) (w_X8_steps cyI cyJ cyZ cyB cyO aM aM_d aM_found aM_e aM_f aM_kept aM_tape aM_came aM_got aM_held aM_off aM_comesUp aM_comesDown aM_path aM_gets aM_gotNow aM_bitsOf aM_sizeOf aM_number aM_passing vM_isKept vM_taped vM_leaked vM_keptAll vM_offAll vM_up vM_down vM_sharesUp vM_sharesDown vM_onUp vM_onDown vM_great vM_triedOff vM_triedLeaked vM_triedKept vM_fitting vM_firstSet vM_inAll vM_inAny vM_at vM_sort vM_from vM_value vM_fault cM_d out.2) out.1 := by
  refine Mi.mk (cc := cX8_steps) (maxL := 4) (rt := .int) (own := RX8) (by decide) rfl rfl (Nat.le_of_ble_eq_true rfl) ?_
  intro p e s m args below meth c A Q F hK hP hD hA hret ls hl
  obtain ⟨hx, hb, hml, hown, hts⟩ := id F
  have hS : va_S A s.heap s.heap [] := va_S.rf
  have hl : lv_has ls 4 [(0, .ref aM), (1, .int x1)] := hl
  have q1 := hts (Cond.methodLink RX8 109 yX8_isBasin) (List.mem_of_getElem? (i := 1) rfl)
  have q16 := hts (Cond.methodLink RX8 74 yX8_its) (List.mem_of_getElem? (i := 16) rfl)
  have q10 := hts (Cond.methodLink RX8 115 yX8_finds) (List.mem_of_getElem? (i := 10) rfl)
  unfold f_X8_steps at h
  refine lv_aload_n hx hb dX8_steps_0 rfl (lv_at hl 0 rfl) ?_
  refine lv_iload_n hx hb dX8_steps_1 rfl (lv_at hl 1 rfl) ?_
  obtain ⟨u1, hu1, h⟩ := bd_some h
  refine cl_Vi (rest := []) F hK hP hD hS hA hl (t_X8_isBasin l D cyI cyJ cyZ cyB cyO aM aM_d aM_e aM_f aM_kept aM_found aM_tape aM_came aM_got aM_held aM_off aM_comesUp aM_comesDown aM_path aM_gets aM_gotNow aM_bitsOf aM_sizeOf aM_number aM_passing vM_isKept vM_taped vM_leaked vM_keptAll vM_offAll vM_up vM_down vM_sharesUp vM_sharesDown vM_onUp vM_onDown vM_great vM_triedOff vM_triedLeaked vM_triedKept vM_fitting vM_firstSet vM_inAll vM_inAny vM_at vM_sort vM_from vM_value vM_fault cM_d x1 u1 hu1) (cwV 1 hts gX8_steps_X8_isBasin rfl rfl rfl (by decide +kernel) ⟨Nat.le_of_ble_eq_true rfl, Nat.le_of_ble_eq_true rfl⟩) 0 [0, 1] [1, 2, 0] [] (w_X8_steps cyI cyJ cyZ cyB cyO aM aM_d aM_found aM_e aM_f aM_kept aM_tape aM_came aM_got aM_held aM_off aM_comesUp aM_comesDown aM_path aM_gets aM_gotNow aM_bitsOf aM_sizeOf aM_number aM_passing vM_isKept vM_taped vM_leaked vM_keptAll vM_offAll vM_up vM_down vM_sharesUp vM_sharesDown vM_onUp vM_onDown vM_great vM_triedOff vM_triedLeaked vM_triedKept vM_fitting vM_firstSet vM_inAll vM_inAny vM_at vM_sort vM_from vM_value vM_fault cM_d cM_found) rfl rfl rfl rfl rfl (by decide +kernel) rfl rfl (Nat.le_of_ble_eq_true rfl) ⟨Nat.zero_le _, Nat.zero_le _⟩ dX8_steps_2 (fun H locs hP hD hS => ?_)
  refine lv_if_ne (tgt := 14) hx hb dX8_steps_5 (by decide) (fun c2 => ?_) (fun c2 => ?_)
  · have h := br_neg c2 h
    refine lv_iconst (v := 0) hx hb dX8_steps_14 (by decide) ?_
    refine lv_istore_n (lv' := [(2, .int (0 : Int32)), (0, .ref aM), (1, .int x1)]) hx hb dX8_steps_15 rfl hl (by decide) rfl (fun ls hl => ?_)
    refine lv_iload_n hx hb dX8_steps_16 rfl (lv_at hl 2 rfl) ?_
    refine lv_istore_n (lv' := [(3, .int x1), (2, .int (0 : Int32)), (0, .ref aM), (1, .int x1)]) hx hb dX8_steps_17 rfl hl (by decide) rfl (fun ls hl => ?_)
    have lp18 : ∀ (k18 : Nat) (y2 : Int32) (y3 : Int32) (cM_found : Nat → Int32) (H : Heap) (locs : List Loc) (ls : Array Slot), va_P D vwCl (w_X8_steps cyI cyJ cyZ cyB cyO aM aM_d aM_found aM_e aM_f aM_kept aM_tape aM_came aM_got aM_held aM_off aM_comesUp aM_comesDown aM_path aM_gets aM_gotNow aM_bitsOf aM_sizeOf aM_number aM_passing vM_isKept vM_taped vM_leaked vM_keptAll vM_offAll vM_up vM_down vM_sharesUp vM_sharesDown vM_onUp vM_onDown vM_great vM_triedOff vM_triedLeaked vM_triedKept vM_fitting vM_firstSet vM_inAll vM_inAny vM_at vM_sort vM_from vM_value vM_fault cM_d cM_found) H → va_D A (w_X8_steps cyI cyJ cyZ cyB cyO aM aM_d aM_found aM_e aM_f aM_kept aM_tape aM_came aM_got aM_held aM_off aM_comesUp aM_comesDown aM_path aM_gets aM_gotNow aM_bitsOf aM_sizeOf aM_number aM_passing vM_isKept vM_taped vM_leaked vM_keptAll vM_offAll vM_up vM_down vM_sharesUp vM_sharesDown vM_onUp vM_onDown vM_great vM_triedOff vM_triedLeaked vM_triedKept vM_fitting vM_firstSet vM_inAll vM_inAny vM_at vM_sort vM_from vM_value vM_fault cM_d cM_found) → va_S A s.heap H locs → lv_has ls 4 [(2, .int y2), (3, .int y3), (0, .ref aM)] → (f_X8_steps_L18 x1 cM_d k18) (y2, y3, cM_found) = some out → W p l e ({ frames := 2, cells := 0, slots := 0, locals := 46 } : Room) s m args below meth c H locs 0 0 Q (F0 m 18 ls []) := by
      intro k18
      induction k18 with
      | zero => intro y2 y3 cM_found H locs ls hP hD hS hl h; cases h
      | succ k18 ih18 =>
        intro y2 y3 cM_found H locs ls hP hD hS hl h
        have h : f_X8_steps_L18_b x1 cM_d (f_X8_steps_L18 x1 cM_d k18) y2 y3 cM_found = some out := h
        unfold f_X8_steps_L18_b at h
        refine lv_iload_n hx hb dX8_steps_18 rfl (lv_at hl 1 rfl) ?_
        refine lv_if_le (tgt := 35) hx hb dX8_steps_19 (by decide) (fun c3 => ?_) (fun c3 => ?_)
        · have h := br_pos c3 h
          refine lv_iload_n hx hb dX8_steps_35 rfl (lv_at hl 0 rfl) ?_
          obtain rfl := Option.some.inj h
          exact hret _ _ _ _ _ hP hD hS dX8_steps_36 rfl rfl
        · have h := br_neg c3 h
          refine lv_iinc (v := y2 + 1) (lv' := [(2, .int (y2 + 1)), (3, .int y3), (0, .ref aM)]) hx hb dX8_steps_22 hl (k := 0) rfl rfl (by decide) rfl (fun ls hl => ?_)
          refine lv_aload_n hx hb dX8_steps_25 rfl (lv_at hl 2 rfl) ?_
          refine lv_iload_n hx hb dX8_steps_26 rfl (lv_at hl 1 rfl) ?_
          refine lv_iconst (v := 1) hx hb dX8_steps_27 (by decide) ?_
          obtain ⟨u4, hu4, h⟩ := bd_some h
          refine cl_Vi (rest := []) F hK hP hD hS hA hl (t_X8_its l D cyI cyJ cyZ cyB cyO aM aM_d aM_e aM_f aM_kept aM_found aM_tape aM_came aM_got aM_held aM_off aM_comesUp aM_comesDown aM_path aM_gets aM_gotNow aM_bitsOf aM_sizeOf aM_number aM_passing vM_isKept vM_taped vM_leaked vM_keptAll vM_offAll vM_up vM_down vM_sharesUp vM_sharesDown vM_onUp vM_onDown vM_great vM_triedOff vM_triedLeaked vM_triedKept vM_fitting vM_firstSet vM_inAll vM_inAny vM_at vM_sort vM_from vM_value vM_fault cM_d y3 (1 : Int32) u4 hu4) (cwV 2 hts gX8_steps_X8_its rfl rfl rfl (by decide +kernel) ⟨Nat.le_of_ble_eq_true rfl, Nat.le_of_ble_eq_true rfl⟩) 0 [0, 1] [1, 2, 0] [] (w_X8_steps cyI cyJ cyZ cyB cyO aM aM_d aM_found aM_e aM_f aM_kept aM_tape aM_came aM_got aM_held aM_off aM_comesUp aM_comesDown aM_path aM_gets aM_gotNow aM_bitsOf aM_sizeOf aM_number aM_passing vM_isKept vM_taped vM_leaked vM_keptAll vM_offAll vM_up vM_down vM_sharesUp vM_sharesDown vM_onUp vM_onDown vM_great vM_triedOff vM_triedLeaked vM_triedKept vM_fitting vM_firstSet vM_inAll vM_inAny vM_at vM_sort vM_from vM_value vM_fault cM_d cM_found) rfl rfl rfl rfl rfl (by decide +kernel) rfl rfl (Nat.le_of_ble_eq_true rfl) ⟨Nat.zero_le _, Nat.zero_le _⟩ dX8_steps_28 (fun H locs hP hD hS => ?_)
          refine lv_istore_n (lv' := [(3, .int u4), (2, .int (y2 + 1)), (0, .ref aM)]) hx hb dX8_steps_31 rfl hl (by decide) rfl (fun ls hl => ?_)
          refine lv_goto (tgt := 18) hx hb dX8_steps_32 (by decide) ?_
          exact ih18 (y2 + 1) u4 cM_found _ _ _ hP hD hS (lv_sub hl [1, 0, 2] rfl) h
    exact lp18 FU (0 : Int32) x1 cM_found _ _ _ hP hD hS (lv_sub hl [1, 0, 2] rfl) h
  · have h := br_pos c2 h
    refine lv_aload_n hx hb dX8_steps_8 rfl (lv_at hl 0 rfl) ?_
    refine lv_iconst (v := 0) hx hb dX8_steps_9 (by decide) ?_
    obtain ⟨u5, hu5, h⟩ := bd_some h
    refine cl_Vi (rest := []) F hK hP hD hS hA hl (t_X8_finds l D cyI cyJ cyZ cyB cyO aM aM_found aM_d aM_e aM_f aM_kept aM_tape aM_came aM_got aM_held aM_off aM_comesUp aM_comesDown aM_path aM_gets aM_gotNow aM_bitsOf aM_sizeOf aM_number aM_passing vM_isKept vM_taped vM_leaked vM_keptAll vM_offAll vM_up vM_down vM_sharesUp vM_sharesDown vM_onUp vM_onDown vM_great vM_triedOff vM_triedLeaked vM_triedKept vM_fitting vM_firstSet vM_inAll vM_inAny vM_at vM_sort vM_from vM_value vM_fault cM_found (0 : Int32) u5 hu5) (cwV 1 hts gX8_steps_X8_finds rfl rfl rfl (by decide +kernel) ⟨Nat.le_of_ble_eq_true rfl, Nat.le_of_ble_eq_true rfl⟩) 0 [0, 2] [1, 0, 2] [] (w_X8_steps cyI cyJ cyZ cyB cyO aM aM_d aM_found aM_e aM_f aM_kept aM_tape aM_came aM_got aM_held aM_off aM_comesUp aM_comesDown aM_path aM_gets aM_gotNow aM_bitsOf aM_sizeOf aM_number aM_passing vM_isKept vM_taped vM_leaked vM_keptAll vM_offAll vM_up vM_down vM_sharesUp vM_sharesDown vM_onUp vM_onDown vM_great vM_triedOff vM_triedLeaked vM_triedKept vM_fitting vM_firstSet vM_inAll vM_inAny vM_at vM_sort vM_from vM_value vM_fault cM_d u5.2) rfl rfl rfl rfl rfl (by decide +kernel) rfl rfl (Nat.le_of_ble_eq_true rfl) ⟨Nat.zero_le _, Nat.zero_le _⟩ dX8_steps_10 (fun H locs hP hD hS => ?_)
    obtain rfl := Option.some.inj h
    exact hret _ _ _ _ _ hP hD hS dX8_steps_13 rfl rfl
/-! ===== X8_common ===== -/
def w_X8_common (cyI cyJ cyZ cyB cyO : ClassId) : va_W := []
set_option maxHeartbeats 4000000 in
set_option maxRecDepth 100000 in
theorem t_X8_common (l : Launch) (D : va_G) (cyI cyJ cyZ cyB cyO : ClassId) (x0 : Int64) (x2 : Int64) (out : Int64) (h : f_X8_common x0 x2 = some out) : Ml l yX8_common wsX8_common ({ frames := 0, cells := 0, slots := 0, locals := 0 } : Room) D (tyA cyI cyJ cyZ cyB cyO) [.long x0, .long x2] (w_X8_common cyI cyJ cyZ cyB cyO ) (w_X8_common cyI cyJ cyZ cyB cyO ) out := by
  refine Ml.mk (cc := cX8_common) (maxL := 10) (own := RX8) (by decide) rfl rfl (Nat.le_of_ble_eq_true rfl) ?_
  intro p e s m args below meth c A Q F hK hP hD hA hret ls hl
  obtain ⟨hx, hb, hml, hown, hts⟩ := id F
  have hS : va_S A s.heap s.heap [] := va_S.rf
  have hl : lv_has ls 10 [(0, .long x0), (2, .long x2)] := hl
  unfold f_X8_common at h
  refine lv_lload_n hx hb dX8_common_0 rfl (lv_at hl 0 rfl) ?_
  refine lv_lstore (lv' := [(4, .long x0), (0, .long x0), (2, .long x2)]) hx hb dX8_common_1 hl (by decide) rfl (fun ls hl => ?_)
  refine lv_lload_n hx hb dX8_common_3 rfl (lv_at hl 2 rfl) ?_
  refine lv_lstore (lv' := [(6, .long x2), (4, .long x0), (0, .long x0), (2, .long x2)]) hx hb dX8_common_4 hl (by decide) rfl (fun ls hl => ?_)
  have lp6 : ∀ (k6 : Nat) (y4 : Int64) (y6 : Int64) (H : Heap) (locs : List Loc) (ls : Array Slot), va_P D vwCl (w_X8_common cyI cyJ cyZ cyB cyO ) H → va_D A (w_X8_common cyI cyJ cyZ cyB cyO ) → va_S A s.heap H locs → lv_has ls 10 [(4, .long y4), (6, .long y6)] → (f_X8_common_L6 x0 x2 k6) (y4, y6) = some out → W p l e ({ frames := 0, cells := 0, slots := 0, locals := 0 } : Room) s m args below meth c H locs 0 0 Q (F0 m 6 ls []) := by
    intro k6
    induction k6 with
    | zero => intro y4 y6 H locs ls hP hD hS hl h; cases h
    | succ k6 ih6 =>
      intro y4 y6 H locs ls hP hD hS hl h
      have h : f_X8_common_L6_b x0 x2 (f_X8_common_L6 x0 x2 k6) y4 y6 = some out := h
      unfold f_X8_common_L6_b at h
      refine lv_lload hx hb dX8_common_6 (lv_at hl 1 rfl) ?_
      refine lv_lconst (v := 0) hx hb dX8_common_8 (by decide) ?_
      refine W.lcmp hx hb dX8_common_9 ?_
      refine lv_if_eq (tgt := 31) hx hb dX8_common_10 (by decide) (fun c1 => ?_) (fun c1 => ?_)
      · have h := br_pos c1 h
        refine lv_lload hx hb dX8_common_31 (lv_at hl 0 rfl) ?_
        obtain rfl := Option.some.inj h
        exact hret _ _ _ _ _ hP hD hS dX8_common_33 rfl
      · have h := br_neg c1 h
        refine lv_lload hx hb dX8_common_13 (lv_at hl 0 rfl) ?_
        refine lv_lload hx hb dX8_common_15 (lv_at hl 1 rfl) ?_
        obtain ⟨g2, h⟩ := gd_some h
        refine lv_lrem hx hb dX8_common_17 g2 ?_
        refine lv_topl (fun z3 ez3 => ?_)
        have h := nm_at ez3 h
        refine lv_lstore (lv' := [(8, .long z3), (4, .long y4), (6, .long y6)]) hx hb dX8_common_18 hl (by decide) rfl (fun ls hl => ?_)
        refine lv_lload hx hb dX8_common_20 (lv_at hl 2 rfl) ?_
        refine lv_lstore (lv' := [(4, .long y6), (8, .long z3), (6, .long y6)]) hx hb dX8_common_22 hl (by decide) rfl (fun ls hl => ?_)
        refine lv_lload hx hb dX8_common_24 (lv_at hl 1 rfl) ?_
        refine lv_lstore (lv' := [(6, .long z3), (4, .long y6), (8, .long z3)]) hx hb dX8_common_26 hl (by decide) rfl (fun ls hl => ?_)
        refine lv_goto (tgt := 6) hx hb dX8_common_28 (by decide) ?_
        exact ih6 y6 z3 _ _ _ hP hD hS (lv_sub hl [1, 0] rfl) h
  exact lp6 FU x0 x2 _ _ _ hP hD hS (lv_sub hl [1, 0] rfl) h
/-! ===== X8_times ===== -/
def w_X8_times (cyI cyJ cyZ cyB cyO : ClassId) (aM aM_d aM_e aM_f aM_kept aM_found aM_tape aM_came aM_got aM_held aM_off aM_comesUp aM_comesDown aM_path aM_gets aM_gotNow aM_bitsOf aM_sizeOf aM_number aM_passing : Nat) (vM_isKept : Int32) (vM_taped : Int32) (vM_leaked : Int32) (vM_keptAll : Int32) (vM_offAll : Int32) (vM_up : Int64) (vM_down : Int64) (vM_sharesUp : Int64) (vM_sharesDown : Int64) (vM_onUp : Int64) (vM_onDown : Int64) (vM_great : Int32) (vM_triedOff : Int32) (vM_triedLeaked : Int32) (vM_triedKept : Int32) (vM_fitting : Int32) (vM_firstSet : Int32) (vM_inAll : Int32) (vM_inAny : Int32) (vM_at : Int32) (vM_sort : Int32) (vM_from : Int32) (vM_value : Int64) (vM_fault : Int32) : va_W := [(aM, .inr (7, [.ref aM_d, .ref aM_e, .ref aM_f, .ref aM_kept, .int vM_isKept, .ref aM_found, .ref aM_tape, .int vM_taped, .ref aM_came, .ref aM_got, .ref aM_held, .ref aM_off, .int vM_leaked, .int vM_keptAll, .int vM_offAll, .ref aM_comesUp, .ref aM_comesDown, .long vM_up, .long vM_down, .long vM_sharesUp, .long vM_sharesDown, .long vM_onUp, .long vM_onDown, .int vM_great, .ref aM_path, .ref aM_gets, .int vM_triedOff, .int vM_triedLeaked, .int vM_triedKept, .ref aM_gotNow, .int vM_fitting, .int vM_firstSet, .int vM_inAll, .int vM_inAny, .int vM_at, .int vM_sort, .int vM_from, .long vM_value, .int vM_fault, .ref aM_bitsOf, .ref aM_sizeOf, .ref aM_number, .ref aM_passing]))]
set_option maxHeartbeats 4000000 in
set_option maxRecDepth 100000 in
theorem t_X8_times (l : Launch) (D : va_G) (cyI cyJ cyZ cyB cyO : ClassId) (aM aM_d aM_e aM_f aM_kept aM_found aM_tape aM_came aM_got aM_held aM_off aM_comesUp aM_comesDown aM_path aM_gets aM_gotNow aM_bitsOf aM_sizeOf aM_number aM_passing : Nat) (vM_isKept : Int32) (vM_taped : Int32) (vM_leaked : Int32) (vM_keptAll : Int32) (vM_offAll : Int32) (vM_up : Int64) (vM_down : Int64) (vM_sharesUp : Int64) (vM_sharesDown : Int64) (vM_onUp : Int64) (vM_onDown : Int64) (vM_great : Int32) (vM_triedOff : Int32) (vM_triedLeaked : Int32) (vM_triedKept : Int32) (vM_fitting : Int32) (vM_firstSet : Int32) (vM_inAll : Int32) (vM_inAny : Int32) (vM_at : Int32) (vM_sort : Int32) (vM_from : Int32) (vM_value : Int64) (vM_fault : Int32) (x1 : Int64) (x3 : Int64) (x5 : Int64) (x7 : Int64) (out : Int64 × Int64 × Int32) (h : f_X8_times x1 x3 x5 x7 vM_up vM_down vM_great = some out) : Mv l yX8_times wsX8_times ({ frames := 1, cells := 0, slots := 0, locals := 29 } : Room) D (tyA cyI cyJ cyZ cyB cyO) [.ref aM, .long x1, .long x3, .long x5, .long x7] (w_X8_times cyI cyJ cyZ cyB cyO aM aM_d aM_e aM_f aM_kept aM_found aM_tape aM_came aM_got aM_held aM_off aM_comesUp aM_comesDown aM_path aM_gets aM_gotNow aM_bitsOf aM_sizeOf aM_number aM_passing vM_isKept vM_taped vM_leaked vM_keptAll vM_offAll vM_up vM_down vM_sharesUp vM_sharesDown vM_onUp vM_onDown vM_great vM_triedOff vM_triedLeaked vM_triedKept vM_fitting vM_firstSet vM_inAll vM_inAny vM_at vM_sort vM_from vM_value vM_fault) (w_X8_times cyI cyJ cyZ cyB cyO aM aM_d aM_e aM_f aM_kept aM_found aM_tape aM_came aM_got aM_held aM_off aM_comesUp aM_comesDown aM_path aM_gets aM_gotNow aM_bitsOf aM_sizeOf aM_number aM_passing vM_isKept vM_taped vM_leaked vM_keptAll vM_offAll out.1 out.2.1 vM_sharesUp vM_sharesDown vM_onUp vM_onDown out.2.2 vM_triedOff vM_triedLeaked vM_triedKept vM_fitting vM_firstSet vM_inAll vM_inAny vM_at vM_sort vM_from vM_value vM_fault) := by
  refine Mv.mk (cc := cX8_times) (maxL := 15) (own := RX8) (by decide) rfl rfl (Nat.le_of_ble_eq_true rfl) ?_
  intro p e s m args below meth c A Q F hK hP hD hA hret ls hl
  obtain ⟨hx, hb, hml, hown, hts⟩ := id F
  have hS : va_S A s.heap s.heap [] := va_S.rf
  have hl : lv_has ls 15 [(0, .ref aM), (1, .long x1), (3, .long x3), (5, .long x5), (7, .long x7)] := hl
  have in_X8 : ∀ w ∈ wsX80, w ∈ wsX8_times := by decide +kernel
  have q5 := hts (Cond.methodLink RX8 129 yX8_common) (List.mem_of_getElem? (i := 5) rfl)
  have q1 := hts (Cond.fieldLink RX8 133 "ThirdFountainModel" "up" "J") (List.mem_of_getElem? (i := 1) rfl)
  have q2 := hts (Cond.fieldLink RX8 137 "ThirdFountainModel" "down" "J") (List.mem_of_getElem? (i := 2) rfl)
  have q3 := hts (Cond.fieldLink RX8 140 "ThirdFountainModel" "great" "Z") (List.mem_of_getElem? (i := 3) rfl)
  have q4 := hts (Cond.constantLong RX8 144 (100000000000)) (List.mem_of_getElem? (i := 4) rfl)
  unfold f_X8_times at h
  refine lv_lload hx hb dX8_times_0 (lv_at hl 3 rfl) ?_
  refine lv_lload hx hb dX8_times_2 (lv_at hl 4 rfl) ?_
  obtain ⟨u1, hu1, h⟩ := bd_some h
  refine cl_Sl (rest := []) F hK hP hD hS hA hl (t_X8_common l D cyI cyJ cyZ cyB cyO x5 x7 u1 hu1) (va_cwS 2 hts gX8_times_X8_common rfl rfl rfl (by decide +kernel) ⟨Nat.le_of_ble_eq_true rfl, Nat.le_of_ble_eq_true rfl⟩) [] [0] [] (w_X8_times cyI cyJ cyZ cyB cyO aM aM_d aM_e aM_f aM_kept aM_found aM_tape aM_came aM_got aM_held aM_off aM_comesUp aM_comesDown aM_path aM_gets aM_gotNow aM_bitsOf aM_sizeOf aM_number aM_passing vM_isKept vM_taped vM_leaked vM_keptAll vM_offAll vM_up vM_down vM_sharesUp vM_sharesDown vM_onUp vM_onDown vM_great vM_triedOff vM_triedLeaked vM_triedKept vM_fitting vM_firstSet vM_inAll vM_inAny vM_at vM_sort vM_from vM_value vM_fault) rfl rfl rfl (by decide +kernel) rfl rfl (Nat.le_of_ble_eq_true rfl) ⟨Nat.zero_le _, Nat.zero_le _⟩ dX8_times_4 (fun H locs hP hD hS => ?_)
  refine lv_lstore (lv' := [(9, .long u1), (0, .ref aM), (1, .long x1), (3, .long x3), (5, .long x5), (7, .long x7)]) hx hb dX8_times_7 hl (by decide) rfl (fun ls hl => ?_)
  refine lv_lload_n hx hb dX8_times_9 rfl (lv_at hl 2 rfl) ?_
  refine lv_lload hx hb dX8_times_10 (lv_at hl 5 rfl) ?_
  refine lv_lload hx hb dX8_times_12 (lv_at hl 0 rfl) ?_
  obtain ⟨g2, h⟩ := gd_some h
  refine lv_ldiv hx hb dX8_times_14 g2 ?_
  obtain ⟨u3, hu3, h⟩ := bd_some h
  refine cl_Sl (rest := []) F hK hP hD hS hA hl (t_X8_common l D cyI cyJ cyZ cyB cyO x1 (x7 / u1) u3 hu3) (va_cwS 2 hts gX8_times_X8_common rfl rfl rfl (by decide +kernel) ⟨Nat.le_of_ble_eq_true rfl, Nat.le_of_ble_eq_true rfl⟩) [] [0] [] (w_X8_times cyI cyJ cyZ cyB cyO aM aM_d aM_e aM_f aM_kept aM_found aM_tape aM_came aM_got aM_held aM_off aM_comesUp aM_comesDown aM_path aM_gets aM_gotNow aM_bitsOf aM_sizeOf aM_number aM_passing vM_isKept vM_taped vM_leaked vM_keptAll vM_offAll vM_up vM_down vM_sharesUp vM_sharesDown vM_onUp vM_onDown vM_great vM_triedOff vM_triedLeaked vM_triedKept vM_fitting vM_firstSet vM_inAll vM_inAny vM_at vM_sort vM_from vM_value vM_fault) rfl rfl rfl (by decide +kernel) rfl rfl (Nat.le_of_ble_eq_true rfl) ⟨Nat.zero_le _, Nat.zero_le _⟩ dX8_times_15 (fun H locs hP hD hS => ?_)
  refine lv_lstore (lv' := [(11, .long u3), (9, .long u1), (0, .ref aM), (1, .long x1), (3, .long x3), (5, .long x5), (7, .long x7)]) hx hb dX8_times_18 hl (by decide) rfl (fun ls hl => ?_)
  refine lv_lload hx hb dX8_times_20 (lv_at hl 5 rfl) ?_
  refine lv_lload hx hb dX8_times_22 (lv_at hl 1 rfl) ?_
  obtain ⟨g4, h⟩ := gd_some h
  refine lv_ldiv hx hb dX8_times_24 g4 ?_
  refine lv_lload_n hx hb dX8_times_25 rfl (lv_at hl 4 rfl) ?_
  obtain ⟨u5, hu5, h⟩ := bd_some h
  refine cl_Sl (rest := []) F hK hP hD hS hA hl (t_X8_common l D cyI cyJ cyZ cyB cyO (x5 / u1) x3 u5 hu5) (va_cwS 2 hts gX8_times_X8_common rfl rfl rfl (by decide +kernel) ⟨Nat.le_of_ble_eq_true rfl, Nat.le_of_ble_eq_true rfl⟩) [] [0] [] (w_X8_times cyI cyJ cyZ cyB cyO aM aM_d aM_e aM_f aM_kept aM_found aM_tape aM_came aM_got aM_held aM_off aM_comesUp aM_comesDown aM_path aM_gets aM_gotNow aM_bitsOf aM_sizeOf aM_number aM_passing vM_isKept vM_taped vM_leaked vM_keptAll vM_offAll vM_up vM_down vM_sharesUp vM_sharesDown vM_onUp vM_onDown vM_great vM_triedOff vM_triedLeaked vM_triedKept vM_fitting vM_firstSet vM_inAll vM_inAny vM_at vM_sort vM_from vM_value vM_fault) rfl rfl rfl (by decide +kernel) rfl rfl (Nat.le_of_ble_eq_true rfl) ⟨Nat.zero_le _, Nat.zero_le _⟩ dX8_times_26 (fun H locs hP hD hS => ?_)
  refine lv_lstore (lv' := [(13, .long u5), (11, .long u3), (9, .long u1), (0, .ref aM), (1, .long x1), (3, .long x3), (5, .long x5), (7, .long x7)]) hx hb dX8_times_29 hl (by decide) rfl (fun ls hl => ?_)
  refine lv_aload_n hx hb dX8_times_31 rfl (lv_at hl 3 rfl) ?_
  refine lv_lload_n hx hb dX8_times_32 rfl (lv_at hl 4 rfl) ?_
  refine lv_lload hx hb dX8_times_33 (lv_at hl 1 rfl) ?_
  obtain ⟨g6, h⟩ := gd_some h
  refine lv_ldiv hx hb dX8_times_35 g6 ?_
  refine lv_lload hx hb dX8_times_36 (lv_at hl 6 rfl) ?_
  refine lv_lload hx hb dX8_times_38 (lv_at hl 2 rfl) ?_
  obtain ⟨g7, h⟩ := gd_some h
  refine lv_ldiv hx hb dX8_times_40 g7 ?_
  refine lv_lload hx hb dX8_times_41 (lv_at hl 0 rfl) ?_
  obtain ⟨g8, h⟩ := gd_some h
  refine lv_ldiv hx hb dX8_times_43 g8 ?_
  refine lv_lmul hx hb dX8_times_44 ?_
  refine va_put (D := D) (ci := 7) (v := .long ((x1 / u3) * ((x5 / u1) / u5))) (ty := .long) (C := RX8) (T := TX8) (N := 43) hx hb hts in_X8 tyX8 tyX8_ok nmX8 hown hK hP hD hS 0 rfl rfl 17 (by decide) q1 (fun _ h9 => h9) rfl (by decide +kernel) rfl rfl (Nat.le_of_ble_eq_true rfl) dX8_times_45 (fun H locs hP hD hS => ?_)
  have hP : va_P D vwCl (w_X8_times cyI cyJ cyZ cyB cyO aM aM_d aM_e aM_f aM_kept aM_found aM_tape aM_came aM_got aM_held aM_off aM_comesUp aM_comesDown aM_path aM_gets aM_gotNow aM_bitsOf aM_sizeOf aM_number aM_passing vM_isKept vM_taped vM_leaked vM_keptAll vM_offAll ((x1 / u3) * ((x5 / u1) / u5)) vM_down vM_sharesUp vM_sharesDown vM_onUp vM_onDown vM_great vM_triedOff vM_triedLeaked vM_triedKept vM_fitting vM_firstSet vM_inAll vM_inAny vM_at vM_sort vM_from vM_value vM_fault) H := hP
  have hD : va_D A (w_X8_times cyI cyJ cyZ cyB cyO aM aM_d aM_e aM_f aM_kept aM_found aM_tape aM_came aM_got aM_held aM_off aM_comesUp aM_comesDown aM_path aM_gets aM_gotNow aM_bitsOf aM_sizeOf aM_number aM_passing vM_isKept vM_taped vM_leaked vM_keptAll vM_offAll ((x1 / u3) * ((x5 / u1) / u5)) vM_down vM_sharesUp vM_sharesDown vM_onUp vM_onDown vM_great vM_triedOff vM_triedLeaked vM_triedKept vM_fitting vM_firstSet vM_inAll vM_inAny vM_at vM_sort vM_from vM_value vM_fault) := hD
  refine lv_aload_n hx hb dX8_times_48 rfl (lv_at hl 3 rfl) ?_
  refine lv_lload_n hx hb dX8_times_49 rfl (lv_at hl 5 rfl) ?_
  refine lv_lload hx hb dX8_times_50 (lv_at hl 0 rfl) ?_
  obtain ⟨g9, h⟩ := gd_some h
  refine lv_ldiv hx hb dX8_times_52 g9 ?_
  refine lv_lload hx hb dX8_times_53 (lv_at hl 7 rfl) ?_
  refine lv_lload hx hb dX8_times_55 (lv_at hl 2 rfl) ?_
  obtain ⟨g10, h⟩ := gd_some h
  refine lv_ldiv hx hb dX8_times_57 g10 ?_
  refine lv_lload hx hb dX8_times_58 (lv_at hl 1 rfl) ?_
  obtain ⟨g11, h⟩ := gd_some h
  refine lv_ldiv hx hb dX8_times_60 g11 ?_
  refine lv_lmul hx hb dX8_times_61 ?_
  refine va_put (D := D) (ci := 7) (v := .long ((x3 / u5) * ((x7 / u1) / u3))) (ty := .long) (C := RX8) (T := TX8) (N := 43) hx hb hts in_X8 tyX8 tyX8_ok nmX8 hown hK hP hD hS 0 rfl rfl 18 (by decide) q2 (fun _ h9 => h9) rfl (by decide +kernel) rfl rfl (Nat.le_of_ble_eq_true rfl) dX8_times_62 (fun H locs hP hD hS => ?_)
  have hP : va_P D vwCl (w_X8_times cyI cyJ cyZ cyB cyO aM aM_d aM_e aM_f aM_kept aM_found aM_tape aM_came aM_got aM_held aM_off aM_comesUp aM_comesDown aM_path aM_gets aM_gotNow aM_bitsOf aM_sizeOf aM_number aM_passing vM_isKept vM_taped vM_leaked vM_keptAll vM_offAll ((x1 / u3) * ((x5 / u1) / u5)) ((x3 / u5) * ((x7 / u1) / u3)) vM_sharesUp vM_sharesDown vM_onUp vM_onDown vM_great vM_triedOff vM_triedLeaked vM_triedKept vM_fitting vM_firstSet vM_inAll vM_inAny vM_at vM_sort vM_from vM_value vM_fault) H := hP
  have hD : va_D A (w_X8_times cyI cyJ cyZ cyB cyO aM aM_d aM_e aM_f aM_kept aM_found aM_tape aM_came aM_got aM_held aM_off aM_comesUp aM_comesDown aM_path aM_gets aM_gotNow aM_bitsOf aM_sizeOf aM_number aM_passing vM_isKept vM_taped vM_leaked vM_keptAll vM_offAll ((x1 / u3) * ((x5 / u1) / u5)) ((x3 / u5) * ((x7 / u1) / u3)) vM_sharesUp vM_sharesDown vM_onUp vM_onDown vM_great vM_triedOff vM_triedLeaked vM_triedKept vM_fitting vM_firstSet vM_inAll vM_inAny vM_at vM_sort vM_from vM_value vM_fault) := hD
  refine lv_aload_n hx hb dX8_times_65 rfl (lv_at hl 3 rfl) ?_
  refine va_get (D := D) (ci := 7) (v := .long ((x1 / u3) * ((x5 / u1) / u5))) (C := RX8) (T := TX8) (N := 43) hx hb hts in_X8 hown hK hP 0 rfl rfl 17 (by decide) q1 (fun _ h9 => h9) rfl dX8_times_66 ?_
  refine lv_lconst (v := 0) hx hb dX8_times_69 (by decide) ?_
  refine W.lcmp hx hb dX8_times_70 ?_
  have j79 : ∀ (vM_up : Int64) (vM_down : Int64) (vM_great : Int32) (H : Heap) (locs : List Loc) (ls : Array Slot), va_P D vwCl (w_X8_times cyI cyJ cyZ cyB cyO aM aM_d aM_e aM_f aM_kept aM_found aM_tape aM_came aM_got aM_held aM_off aM_comesUp aM_comesDown aM_path aM_gets aM_gotNow aM_bitsOf aM_sizeOf aM_number aM_passing vM_isKept vM_taped vM_leaked vM_keptAll vM_offAll vM_up vM_down vM_sharesUp vM_sharesDown vM_onUp vM_onDown vM_great vM_triedOff vM_triedLeaked vM_triedKept vM_fitting vM_firstSet vM_inAll vM_inAny vM_at vM_sort vM_from vM_value vM_fault) H → va_D A (w_X8_times cyI cyJ cyZ cyB cyO aM aM_d aM_e aM_f aM_kept aM_found aM_tape aM_came aM_got aM_held aM_off aM_comesUp aM_comesDown aM_path aM_gets aM_gotNow aM_bitsOf aM_sizeOf aM_number aM_passing vM_isKept vM_taped vM_leaked vM_keptAll vM_offAll vM_up vM_down vM_sharesUp vM_sharesDown vM_onUp vM_onDown vM_great vM_triedOff vM_triedLeaked vM_triedKept vM_fitting vM_firstSet vM_inAll vM_inAny vM_at vM_sort vM_from vM_value vM_fault) → va_S A s.heap H locs → lv_has ls 15 [(0, .ref aM)] → f_X8_times_J79 x1 x3 x5 x7 vM_up vM_down vM_great = some out → W p l e ({ frames := 1, cells := 0, slots := 0, locals := 29 } : Room) s m args below meth c H locs 0 0 Q (F0 m 79 ls []) := by
    intro vM_up vM_down vM_great H locs ls hP hD hS hl h
    unfold f_X8_times_J79 at h
    refine lv_aload_n hx hb dX8_times_79 rfl (lv_at hl 0 rfl) ?_
    refine lv_aload_n hx hb dX8_times_80 rfl (lv_at hl 0 rfl) ?_
    refine va_get (D := D) (ci := 7) (v := .int vM_great) (C := RX8) (T := TX8) (N := 43) hx hb hts in_X8 hown hK hP 0 rfl rfl 23 (by decide) q3 (fun _ h9 => h9) rfl dX8_times_81 ?_
    refine lv_if_ne (tgt := 109) hx hb dX8_times_84 (by decide) (fun c12 => ?_) (fun c12 => ?_)
    · have h := br_neg c12 h
      refine lv_iconst (v := 1) hx hb dX8_times_109 (by decide) ?_
      refine lv_goto (tgt := 114) hx hb dX8_times_110 (by decide) ?_
      refine va_put (D := D) (ci := 7) (v := .int (1 : Int32)) (ty := .boolean) (C := RX8) (T := TX8) (N := 43) hx hb hts in_X8 tyX8 tyX8_ok nmX8 hown hK hP hD hS 0 rfl rfl 23 (by decide) q3 (fun _ h9 => h9) rfl (by decide +kernel) (nz_of (Or.inr rfl)) (fz_of (Or.inr rfl)) (Nat.le_of_ble_eq_true rfl) dX8_times_114 (fun H locs hP hD hS => ?_)
      have hP : va_P D vwCl (w_X8_times cyI cyJ cyZ cyB cyO aM aM_d aM_e aM_f aM_kept aM_found aM_tape aM_came aM_got aM_held aM_off aM_comesUp aM_comesDown aM_path aM_gets aM_gotNow aM_bitsOf aM_sizeOf aM_number aM_passing vM_isKept vM_taped vM_leaked vM_keptAll vM_offAll vM_up vM_down vM_sharesUp vM_sharesDown vM_onUp vM_onDown (1 : Int32) vM_triedOff vM_triedLeaked vM_triedKept vM_fitting vM_firstSet vM_inAll vM_inAny vM_at vM_sort vM_from vM_value vM_fault) H := hP
      have hD : va_D A (w_X8_times cyI cyJ cyZ cyB cyO aM aM_d aM_e aM_f aM_kept aM_found aM_tape aM_came aM_got aM_held aM_off aM_comesUp aM_comesDown aM_path aM_gets aM_gotNow aM_bitsOf aM_sizeOf aM_number aM_passing vM_isKept vM_taped vM_leaked vM_keptAll vM_offAll vM_up vM_down vM_sharesUp vM_sharesDown vM_onUp vM_onDown (1 : Int32) vM_triedOff vM_triedLeaked vM_triedKept vM_fitting vM_firstSet vM_inAll vM_inAny vM_at vM_sort vM_from vM_value vM_fault) := hD
      obtain rfl := Option.some.inj h
      exact hret _ _ _ _ hP hD hS dX8_times_117 
    · have h := br_pos c12 h
      refine lv_aload_n hx hb dX8_times_87 rfl (lv_at hl 0 rfl) ?_
      refine va_get (D := D) (ci := 7) (v := .long vM_up) (C := RX8) (T := TX8) (N := 43) hx hb hts in_X8 hown hK hP 0 rfl rfl 17 (by decide) q1 (fun _ h9 => h9) rfl dX8_times_88 ?_
      refine lv_ldc2 (v := 100000000000) hx hb hown q4 dX8_times_91 ?_
      refine W.lcmp hx hb dX8_times_94 ?_
      refine lv_if_gt (tgt := 109) hx hb dX8_times_95 (by decide) (fun c13 => ?_) (fun c13 => ?_)
      · have h := br_pos c13 h
        refine lv_iconst (v := 1) hx hb dX8_times_109 (by decide) ?_
        refine lv_goto (tgt := 114) hx hb dX8_times_110 (by decide) ?_
        refine va_put (D := D) (ci := 7) (v := .int (1 : Int32)) (ty := .boolean) (C := RX8) (T := TX8) (N := 43) hx hb hts in_X8 tyX8 tyX8_ok nmX8 hown hK hP hD hS 0 rfl rfl 23 (by decide) q3 (fun _ h9 => h9) rfl (by decide +kernel) (nz_of (Or.inr rfl)) (fz_of (Or.inr rfl)) (Nat.le_of_ble_eq_true rfl) dX8_times_114 (fun H locs hP hD hS => ?_)
        have hP : va_P D vwCl (w_X8_times cyI cyJ cyZ cyB cyO aM aM_d aM_e aM_f aM_kept aM_found aM_tape aM_came aM_got aM_held aM_off aM_comesUp aM_comesDown aM_path aM_gets aM_gotNow aM_bitsOf aM_sizeOf aM_number aM_passing vM_isKept vM_taped vM_leaked vM_keptAll vM_offAll vM_up vM_down vM_sharesUp vM_sharesDown vM_onUp vM_onDown (1 : Int32) vM_triedOff vM_triedLeaked vM_triedKept vM_fitting vM_firstSet vM_inAll vM_inAny vM_at vM_sort vM_from vM_value vM_fault) H := hP
        have hD : va_D A (w_X8_times cyI cyJ cyZ cyB cyO aM aM_d aM_e aM_f aM_kept aM_found aM_tape aM_came aM_got aM_held aM_off aM_comesUp aM_comesDown aM_path aM_gets aM_gotNow aM_bitsOf aM_sizeOf aM_number aM_passing vM_isKept vM_taped vM_leaked vM_keptAll vM_offAll vM_up vM_down vM_sharesUp vM_sharesDown vM_onUp vM_onDown (1 : Int32) vM_triedOff vM_triedLeaked vM_triedKept vM_fitting vM_firstSet vM_inAll vM_inAny vM_at vM_sort vM_from vM_value vM_fault) := hD
        obtain rfl := Option.some.inj h
        exact hret _ _ _ _ hP hD hS dX8_times_117 
      · have h := br_neg c13 h
        refine lv_aload_n hx hb dX8_times_98 rfl (lv_at hl 0 rfl) ?_
        refine va_get (D := D) (ci := 7) (v := .long vM_down) (C := RX8) (T := TX8) (N := 43) hx hb hts in_X8 hown hK hP 0 rfl rfl 18 (by decide) q2 (fun _ h9 => h9) rfl dX8_times_99 ?_
        refine lv_ldc2 (v := 100000000000) hx hb hown q4 dX8_times_102 ?_
        refine W.lcmp hx hb dX8_times_105 ?_
        refine lv_if_le (tgt := 113) hx hb dX8_times_106 (by decide) (fun c14 => ?_) (fun c14 => ?_)
        · have h := br_pos c14 h
          refine lv_iconst (v := 0) hx hb dX8_times_113 (by decide) ?_
          refine va_put (D := D) (ci := 7) (v := .int (0 : Int32)) (ty := .boolean) (C := RX8) (T := TX8) (N := 43) hx hb hts in_X8 tyX8 tyX8_ok nmX8 hown hK hP hD hS 0 rfl rfl 23 (by decide) q3 (fun _ h9 => h9) rfl (by decide +kernel) (nz_of (Or.inl rfl)) (fz_of (Or.inl rfl)) (Nat.le_of_ble_eq_true rfl) dX8_times_114 (fun H locs hP hD hS => ?_)
          have hP : va_P D vwCl (w_X8_times cyI cyJ cyZ cyB cyO aM aM_d aM_e aM_f aM_kept aM_found aM_tape aM_came aM_got aM_held aM_off aM_comesUp aM_comesDown aM_path aM_gets aM_gotNow aM_bitsOf aM_sizeOf aM_number aM_passing vM_isKept vM_taped vM_leaked vM_keptAll vM_offAll vM_up vM_down vM_sharesUp vM_sharesDown vM_onUp vM_onDown (0 : Int32) vM_triedOff vM_triedLeaked vM_triedKept vM_fitting vM_firstSet vM_inAll vM_inAny vM_at vM_sort vM_from vM_value vM_fault) H := hP
          have hD : va_D A (w_X8_times cyI cyJ cyZ cyB cyO aM aM_d aM_e aM_f aM_kept aM_found aM_tape aM_came aM_got aM_held aM_off aM_comesUp aM_comesDown aM_path aM_gets aM_gotNow aM_bitsOf aM_sizeOf aM_number aM_passing vM_isKept vM_taped vM_leaked vM_keptAll vM_offAll vM_up vM_down vM_sharesUp vM_sharesDown vM_onUp vM_onDown (0 : Int32) vM_triedOff vM_triedLeaked vM_triedKept vM_fitting vM_firstSet vM_inAll vM_inAny vM_at vM_sort vM_from vM_value vM_fault) := hD
          obtain rfl := Option.some.inj h
          exact hret _ _ _ _ hP hD hS dX8_times_117 
        · have h := br_neg c14 h
          refine lv_iconst (v := 1) hx hb dX8_times_109 (by decide) ?_
          refine lv_goto (tgt := 114) hx hb dX8_times_110 (by decide) ?_
          refine va_put (D := D) (ci := 7) (v := .int (1 : Int32)) (ty := .boolean) (C := RX8) (T := TX8) (N := 43) hx hb hts in_X8 tyX8 tyX8_ok nmX8 hown hK hP hD hS 0 rfl rfl 23 (by decide) q3 (fun _ h9 => h9) rfl (by decide +kernel) (nz_of (Or.inr rfl)) (fz_of (Or.inr rfl)) (Nat.le_of_ble_eq_true rfl) dX8_times_114 (fun H locs hP hD hS => ?_)
          have hP : va_P D vwCl (w_X8_times cyI cyJ cyZ cyB cyO aM aM_d aM_e aM_f aM_kept aM_found aM_tape aM_came aM_got aM_held aM_off aM_comesUp aM_comesDown aM_path aM_gets aM_gotNow aM_bitsOf aM_sizeOf aM_number aM_passing vM_isKept vM_taped vM_leaked vM_keptAll vM_offAll vM_up vM_down vM_sharesUp vM_sharesDown vM_onUp vM_onDown (1 : Int32) vM_triedOff vM_triedLeaked vM_triedKept vM_fitting vM_firstSet vM_inAll vM_inAny vM_at vM_sort vM_from vM_value vM_fault) H := hP
          have hD : va_D A (w_X8_times cyI cyJ cyZ cyB cyO aM aM_d aM_e aM_f aM_kept aM_found aM_tape aM_came aM_got aM_held aM_off aM_comesUp aM_comesDown aM_path aM_gets aM_gotNow aM_bitsOf aM_sizeOf aM_number aM_passing vM_isKept vM_taped vM_leaked vM_keptAll vM_offAll vM_up vM_down vM_sharesUp vM_sharesDown vM_onUp vM_onDown (1 : Int32) vM_triedOff vM_triedLeaked vM_triedKept vM_fitting vM_firstSet vM_inAll vM_inAny vM_at vM_sort vM_from vM_value vM_fault) := hD
          obtain rfl := Option.some.inj h
          exact hret _ _ _ _ hP hD hS dX8_times_117 
  refine lv_if_ne (tgt := 79) hx hb dX8_times_71 (by decide) (fun c15 => ?_) (fun c15 => ?_)
  · have h := br_neg c15 h
    exact j79 ((x1 / u3) * ((x5 / u1) / u5)) ((x3 / u5) * ((x7 / u1) / u3)) vM_great _ _ _ hP hD hS (lv_sub hl [3] rfl) h
  · have h := br_pos c15 h
    refine lv_aload_n hx hb dX8_times_74 rfl (lv_at hl 3 rfl) ?_
    refine lv_lconst (v := 1) hx hb dX8_times_75 (by decide) ?_
    refine va_put (D := D) (ci := 7) (v := .long (1 : Int64)) (ty := .long) (C := RX8) (T := TX8) (N := 43) hx hb hts in_X8 tyX8 tyX8_ok nmX8 hown hK hP hD hS 0 rfl rfl 18 (by decide) q2 (fun _ h9 => h9) rfl (by decide +kernel) rfl rfl (Nat.le_of_ble_eq_true rfl) dX8_times_76 (fun H locs hP hD hS => ?_)
    have hP : va_P D vwCl (w_X8_times cyI cyJ cyZ cyB cyO aM aM_d aM_e aM_f aM_kept aM_found aM_tape aM_came aM_got aM_held aM_off aM_comesUp aM_comesDown aM_path aM_gets aM_gotNow aM_bitsOf aM_sizeOf aM_number aM_passing vM_isKept vM_taped vM_leaked vM_keptAll vM_offAll ((x1 / u3) * ((x5 / u1) / u5)) (1 : Int64) vM_sharesUp vM_sharesDown vM_onUp vM_onDown vM_great vM_triedOff vM_triedLeaked vM_triedKept vM_fitting vM_firstSet vM_inAll vM_inAny vM_at vM_sort vM_from vM_value vM_fault) H := hP
    have hD : va_D A (w_X8_times cyI cyJ cyZ cyB cyO aM aM_d aM_e aM_f aM_kept aM_found aM_tape aM_came aM_got aM_held aM_off aM_comesUp aM_comesDown aM_path aM_gets aM_gotNow aM_bitsOf aM_sizeOf aM_number aM_passing vM_isKept vM_taped vM_leaked vM_keptAll vM_offAll ((x1 / u3) * ((x5 / u1) / u5)) (1 : Int64) vM_sharesUp vM_sharesDown vM_onUp vM_onDown vM_great vM_triedOff vM_triedLeaked vM_triedKept vM_fitting vM_firstSet vM_inAll vM_inAny vM_at vM_sort vM_from vM_value vM_fault) := hD
    exact j79 ((x1 / u3) * ((x5 / u1) / u5)) (1 : Int64) vM_great _ _ _ hP hD hS (lv_sub hl [3] rfl) h
/-! ===== X8_shareOf ===== -/
def w_X8_shareOf (cyI cyJ cyZ cyB cyO : ClassId) (aM aM_d aM_comesUp aM_comesDown aM_e aM_f aM_kept aM_found aM_tape aM_came aM_got aM_held aM_off aM_path aM_gets aM_gotNow aM_bitsOf aM_sizeOf aM_number aM_passing : Nat) (vM_isKept : Int32) (vM_taped : Int32) (vM_leaked : Int32) (vM_keptAll : Int32) (vM_offAll : Int32) (vM_up : Int64) (vM_down : Int64) (vM_sharesUp : Int64) (vM_sharesDown : Int64) (vM_onUp : Int64) (vM_onDown : Int64) (vM_great : Int32) (vM_triedOff : Int32) (vM_triedLeaked : Int32) (vM_triedKept : Int32) (vM_fitting : Int32) (vM_firstSet : Int32) (vM_inAll : Int32) (vM_inAny : Int32) (vM_at : Int32) (vM_sort : Int32) (vM_from : Int32) (vM_value : Int64) (vM_fault : Int32) (cM_d : Nat → Int32) (cM_comesUp : Nat → Int64) (cM_comesDown : Nat → Int64) : va_W := [(aM, .inr (7, [.ref aM_d, .ref aM_e, .ref aM_f, .ref aM_kept, .int vM_isKept, .ref aM_found, .ref aM_tape, .int vM_taped, .ref aM_came, .ref aM_got, .ref aM_held, .ref aM_off, .int vM_leaked, .int vM_keptAll, .int vM_offAll, .ref aM_comesUp, .ref aM_comesDown, .long vM_up, .long vM_down, .long vM_sharesUp, .long vM_sharesDown, .long vM_onUp, .long vM_onDown, .int vM_great, .ref aM_path, .ref aM_gets, .int vM_triedOff, .int vM_triedLeaked, .int vM_triedKept, .ref aM_gotNow, .int vM_fitting, .int vM_firstSet, .int vM_inAll, .int vM_inAny, .int vM_at, .int vM_sort, .int vM_from, .long vM_value, .int vM_fault, .ref aM_bitsOf, .ref aM_sizeOf, .ref aM_number, .ref aM_passing])), (aM_d, .inl (cyI, 64, .inl cM_d)), (aM_comesUp, .inl (cyJ, 10, .inr (.inl cM_comesUp))), (aM_comesDown, .inl (cyJ, 10, .inr (.inl cM_comesDown)))]
set_option maxHeartbeats 4000000 in
set_option maxRecDepth 100000 in
theorem t_X8_shareOf (l : Launch) (D : va_G) (cyI cyJ cyZ cyB cyO : ClassId) (aM aM_d aM_comesUp aM_comesDown aM_e aM_f aM_kept aM_found aM_tape aM_came aM_got aM_held aM_off aM_path aM_gets aM_gotNow aM_bitsOf aM_sizeOf aM_number aM_passing : Nat) (vM_isKept : Int32) (vM_taped : Int32) (vM_leaked : Int32) (vM_keptAll : Int32) (vM_offAll : Int32) (vM_up : Int64) (vM_down : Int64) (vM_sharesUp : Int64) (vM_sharesDown : Int64) (vM_onUp : Int64) (vM_onDown : Int64) (vM_great : Int32) (vM_triedOff : Int32) (vM_triedLeaked : Int32) (vM_triedKept : Int32) (vM_fitting : Int32) (vM_firstSet : Int32) (vM_inAll : Int32) (vM_inAny : Int32) (vM_at : Int32) (vM_sort : Int32) (vM_from : Int32) (vM_value : Int64) (vM_fault : Int32) (cM_d : Nat → Int32) (cM_comesUp : Nat → Int64) (cM_comesDown : Nat → Int64) (x1 : Int32) (x2 : Int32) (out : Int64 × Int64 × Int64 × Int64 × Int64 × Int64 × Int32) (h : f_X8_shareOf x1 x2 vM_up vM_down vM_sharesUp vM_sharesDown vM_onUp vM_onDown vM_great cM_d cM_comesUp cM_comesDown = some out) : Mv l yX8_shareOf wsX8_shareOf ({ frames := 2, cells := 0, slots := 0, locals := 63 } : Room) D (tyA cyI cyJ cyZ cyB cyO) [.ref aM, .int x1, .int x2] (w_X8_shareOf cyI cyJ cyZ cyB cyO aM aM_d aM_comesUp aM_comesDown aM_e aM_f aM_kept aM_found aM_tape aM_came aM_got aM_held aM_off aM_path aM_gets aM_gotNow aM_bitsOf aM_sizeOf aM_number aM_passing vM_isKept vM_taped vM_leaked vM_keptAll vM_offAll vM_up vM_down vM_sharesUp vM_sharesDown vM_onUp vM_onDown vM_great vM_triedOff vM_triedLeaked vM_triedKept vM_fitting vM_firstSet vM_inAll vM_inAny vM_at vM_sort vM_from vM_value vM_fault cM_d cM_comesUp cM_comesDown) (w_X8_shareOf cyI cyJ cyZ cyB cyO aM aM_d aM_comesUp aM_comesDown aM_e aM_f aM_kept aM_found aM_tape aM_came aM_got aM_held aM_off aM_path aM_gets aM_gotNow aM_bitsOf aM_sizeOf aM_number aM_passing vM_isKept vM_taped vM_leaked vM_keptAll vM_offAll out.1 out.2.1 out.2.2.1 out.2.2.2.1 out.2.2.2.2.1 out.2.2.2.2.2.1 out.2.2.2.2.2.2 vM_triedOff vM_triedLeaked vM_triedKept vM_fitting vM_firstSet vM_inAll vM_inAny vM_at vM_sort vM_from vM_value vM_fault cM_d cM_comesUp cM_comesDown) := by
  refine Mv.mk (cc := cX8_shareOf) (maxL := 8) (own := RX8) (by decide) rfl rfl (Nat.le_of_ble_eq_true rfl) ?_
  intro p e s m args below meth c A Q F hK hP hD hA hret ls hl
  obtain ⟨hx, hb, hml, hown, hts⟩ := id F
  have hS : va_S A s.heap s.heap [] := va_S.rf
  have hl : lv_has ls 8 [(0, .ref aM), (1, .int x1), (2, .int x2)] := hl
  have in_X8 : ∀ w ∈ wsX80, w ∈ wsX8_shareOf := by decide +kernel
  have q15 := hts (Cond.methodLink RX8 74 yX8_its) (List.mem_of_getElem? (i := 15) rfl)
  have q1 := hts (Cond.fieldLink RX8 41 "ThirdFountainModel" "comesUp" "[J") (List.mem_of_getElem? (i := 1) rfl)
  have q2 := hts (Cond.fieldLink RX8 45 "ThirdFountainModel" "comesDown" "[J") (List.mem_of_getElem? (i := 2) rfl)
  have q21 := hts (Cond.methodLink RX8 152 yX8_times) (List.mem_of_getElem? (i := 21) rfl)
  have q7 := hts (Cond.fieldLink RX8 133 "ThirdFountainModel" "up" "J") (List.mem_of_getElem? (i := 7) rfl)
  have q8 := hts (Cond.fieldLink RX8 137 "ThirdFountainModel" "down" "J") (List.mem_of_getElem? (i := 8) rfl)
  have q11 := hts (Cond.fieldLink RX8 160 "ThirdFountainModel" "sharesUp" "J") (List.mem_of_getElem? (i := 11) rfl)
  have q12 := hts (Cond.fieldLink RX8 163 "ThirdFountainModel" "sharesDown" "J") (List.mem_of_getElem? (i := 12) rfl)
  have q13 := hts (Cond.fieldLink RX8 166 "ThirdFountainModel" "onUp" "J") (List.mem_of_getElem? (i := 13) rfl)
  have q14 := hts (Cond.fieldLink RX8 169 "ThirdFountainModel" "onDown" "J") (List.mem_of_getElem? (i := 14) rfl)
  have q10 := hts (Cond.constantLong RX8 158 (3)) (List.mem_of_getElem? (i := 10) rfl)
  have q6 := hts (Cond.constantLong RX8 150 (5)) (List.mem_of_getElem? (i := 6) rfl)
  have q9 := hts (Cond.constantLong RX8 156 (2)) (List.mem_of_getElem? (i := 9) rfl)
  have q5 := hts (Cond.constantLong RX8 148 (10)) (List.mem_of_getElem? (i := 5) rfl)
  have q4 := hts (Cond.constantLong RX8 146 (4)) (List.mem_of_getElem? (i := 4) rfl)
  have q3 := hts (Cond.constantLong RX8 121 (9)) (List.mem_of_getElem? (i := 3) rfl)
  unfold f_X8_shareOf at h
  refine lv_aload_n hx hb dX8_shareOf_0 rfl (lv_at hl 0 rfl) ?_
  refine lv_iload_n hx hb dX8_shareOf_1 rfl (lv_at hl 1 rfl) ?_
  refine lv_iconst (v := 0) hx hb dX8_shareOf_2 (by decide) ?_
  obtain ⟨u1, hu1, h⟩ := bd_some h
  refine cl_Vi (rest := []) F hK hP hD hS hA hl (t_X8_its l D cyI cyJ cyZ cyB cyO aM aM_d aM_e aM_f aM_kept aM_found aM_tape aM_came aM_got aM_held aM_off aM_comesUp aM_comesDown aM_path aM_gets aM_gotNow aM_bitsOf aM_sizeOf aM_number aM_passing vM_isKept vM_taped vM_leaked vM_keptAll vM_offAll vM_up vM_down vM_sharesUp vM_sharesDown vM_onUp vM_onDown vM_great vM_triedOff vM_triedLeaked vM_triedKept vM_fitting vM_firstSet vM_inAll vM_inAny vM_at vM_sort vM_from vM_value vM_fault cM_d x1 (0 : Int32) u1 hu1) (cwV 2 hts gX8_shareOf_X8_its rfl rfl rfl (by decide +kernel) ⟨Nat.le_of_ble_eq_true rfl, Nat.le_of_ble_eq_true rfl⟩) 0 [0, 1] [1, 2, 0, 0] [] (w_X8_shareOf cyI cyJ cyZ cyB cyO aM aM_d aM_comesUp aM_comesDown aM_e aM_f aM_kept aM_found aM_tape aM_came aM_got aM_held aM_off aM_path aM_gets aM_gotNow aM_bitsOf aM_sizeOf aM_number aM_passing vM_isKept vM_taped vM_leaked vM_keptAll vM_offAll vM_up vM_down vM_sharesUp vM_sharesDown vM_onUp vM_onDown vM_great vM_triedOff vM_triedLeaked vM_triedKept vM_fitting vM_firstSet vM_inAll vM_inAny vM_at vM_sort vM_from vM_value vM_fault cM_d cM_comesUp cM_comesDown) rfl rfl rfl rfl rfl (by decide +kernel) rfl rfl (Nat.le_of_ble_eq_true rfl) ⟨Nat.zero_le _, Nat.zero_le _⟩ dX8_shareOf_3 (fun H locs hP hD hS => ?_)
  refine lv_istore_n (lv' := [(3, .int u1), (0, .ref aM), (1, .int x1), (2, .int x2)]) hx hb dX8_shareOf_6 rfl hl (by decide) rfl (fun ls hl => ?_)
  refine lv_aload_n hx hb dX8_shareOf_7 rfl (lv_at hl 1 rfl) ?_
  refine lv_aload_n hx hb dX8_shareOf_8 rfl (lv_at hl 1 rfl) ?_
  refine va_get (D := D) (ci := 7) (v := .ref aM_comesUp) (C := RX8) (T := TX8) (N := 43) hx hb hts in_X8 hown hK hP 0 rfl rfl 15 (by decide) q1 (fun _ h9 => h9) rfl dX8_shareOf_9 ?_
  refine lv_iload_n hx hb dX8_shareOf_12 rfl (lv_at hl 2 rfl) ?_
  obtain ⟨g2, h⟩ := gd_some h
  refine va_lald hx hb hK hP 2 1 rfl rfl g2 dX8_shareOf_13 ?_
  refine lv_aload_n hx hb dX8_shareOf_14 rfl (lv_at hl 1 rfl) ?_
  refine va_get (D := D) (ci := 7) (v := .ref aM_comesDown) (C := RX8) (T := TX8) (N := 43) hx hb hts in_X8 hown hK hP 0 rfl rfl 16 (by decide) q2 (fun _ h9 => h9) rfl dX8_shareOf_15 ?_
  refine lv_iload_n hx hb dX8_shareOf_18 rfl (lv_at hl 2 rfl) ?_
  obtain ⟨g3, h⟩ := gd_some h
  refine va_lald hx hb hK hP 3 1 rfl rfl g3 dX8_shareOf_19 ?_
  refine lv_iload_n hx hb dX8_shareOf_20 rfl (lv_at hl 0 rfl) ?_
  refine lv_iconst (v := 2) hx hb dX8_shareOf_21 (by decide) ?_
  have j43 : ∀ (y3 : Int32) (t1 : Int64) (t2 : Int64) (t3 : Int64) (vM_up : Int64) (vM_down : Int64) (vM_sharesUp : Int64) (vM_sharesDown : Int64) (vM_onUp : Int64) (vM_onDown : Int64) (vM_great : Int32) (H : Heap) (locs : List Loc) (ls : Array Slot), va_P D vwCl (w_X8_shareOf cyI cyJ cyZ cyB cyO aM aM_d aM_comesUp aM_comesDown aM_e aM_f aM_kept aM_found aM_tape aM_came aM_got aM_held aM_off aM_path aM_gets aM_gotNow aM_bitsOf aM_sizeOf aM_number aM_passing vM_isKept vM_taped vM_leaked vM_keptAll vM_offAll vM_up vM_down vM_sharesUp vM_sharesDown vM_onUp vM_onDown vM_great vM_triedOff vM_triedLeaked vM_triedKept vM_fitting vM_firstSet vM_inAll vM_inAny vM_at vM_sort vM_from vM_value vM_fault cM_d cM_comesUp cM_comesDown) H → va_D A (w_X8_shareOf cyI cyJ cyZ cyB cyO aM aM_d aM_comesUp aM_comesDown aM_e aM_f aM_kept aM_found aM_tape aM_came aM_got aM_held aM_off aM_path aM_gets aM_gotNow aM_bitsOf aM_sizeOf aM_number aM_passing vM_isKept vM_taped vM_leaked vM_keptAll vM_offAll vM_up vM_down vM_sharesUp vM_sharesDown vM_onUp vM_onDown vM_great vM_triedOff vM_triedLeaked vM_triedKept vM_fitting vM_firstSet vM_inAll vM_inAny vM_at vM_sort vM_from vM_value vM_fault cM_d cM_comesUp cM_comesDown) → va_S A s.heap H locs → lv_has ls 8 [(3, .int y3), (0, .ref aM), (2, .int x2)] → f_X8_shareOf_J43 x1 x2 cM_d cM_comesUp cM_comesDown y3 t1 t2 t3 vM_up vM_down vM_sharesUp vM_sharesDown vM_onUp vM_onDown vM_great = some out → W p l e ({ frames := 2, cells := 0, slots := 0, locals := 63 } : Room) s m args below meth c H locs 0 0 Q (F0 m 43 ls [.long t3, .long t2, .long t1, .ref aM]) := by
    intro y3 t1 t2 t3 vM_up vM_down vM_sharesUp vM_sharesDown vM_onUp vM_onDown vM_great H locs ls hP hD hS hl h
    unfold f_X8_shareOf_J43 at h
    refine lv_iload_n hx hb dX8_shareOf_43 rfl (lv_at hl 0 rfl) ?_
    refine lv_iconst (v := 2) hx hb dX8_shareOf_44 (by decide) ?_
    have j66 : ∀ (y3 : Int32) (t1 : Int64) (t2 : Int64) (t3 : Int64) (t4 : Int64) (vM_up : Int64) (vM_down : Int64) (vM_sharesUp : Int64) (vM_sharesDown : Int64) (vM_onUp : Int64) (vM_onDown : Int64) (vM_great : Int32) (H : Heap) (locs : List Loc) (ls : Array Slot), va_P D vwCl (w_X8_shareOf cyI cyJ cyZ cyB cyO aM aM_d aM_comesUp aM_comesDown aM_e aM_f aM_kept aM_found aM_tape aM_came aM_got aM_held aM_off aM_path aM_gets aM_gotNow aM_bitsOf aM_sizeOf aM_number aM_passing vM_isKept vM_taped vM_leaked vM_keptAll vM_offAll vM_up vM_down vM_sharesUp vM_sharesDown vM_onUp vM_onDown vM_great vM_triedOff vM_triedLeaked vM_triedKept vM_fitting vM_firstSet vM_inAll vM_inAny vM_at vM_sort vM_from vM_value vM_fault cM_d cM_comesUp cM_comesDown) H → va_D A (w_X8_shareOf cyI cyJ cyZ cyB cyO aM aM_d aM_comesUp aM_comesDown aM_e aM_f aM_kept aM_found aM_tape aM_came aM_got aM_held aM_off aM_path aM_gets aM_gotNow aM_bitsOf aM_sizeOf aM_number aM_passing vM_isKept vM_taped vM_leaked vM_keptAll vM_offAll vM_up vM_down vM_sharesUp vM_sharesDown vM_onUp vM_onDown vM_great vM_triedOff vM_triedLeaked vM_triedKept vM_fitting vM_firstSet vM_inAll vM_inAny vM_at vM_sort vM_from vM_value vM_fault cM_d cM_comesUp cM_comesDown) → va_S A s.heap H locs → lv_has ls 8 [(3, .int y3), (0, .ref aM), (2, .int x2)] → f_X8_shareOf_J66 x1 x2 cM_d cM_comesUp cM_comesDown y3 t1 t2 t3 t4 vM_up vM_down vM_sharesUp vM_sharesDown vM_onUp vM_onDown vM_great = some out → W p l e ({ frames := 2, cells := 0, slots := 0, locals := 63 } : Room) s m args below meth c H locs 0 0 Q (F0 m 66 ls [.long t4, .long t3, .long t2, .long t1, .ref aM]) := by
      intro y3 t1 t2 t3 t4 vM_up vM_down vM_sharesUp vM_sharesDown vM_onUp vM_onDown vM_great H locs ls hP hD hS hl h
      unfold f_X8_shareOf_J66 at h
      obtain ⟨u4, hu4, h⟩ := bd_some h
      refine cl_Vv (rest := []) F hK hP hD hS hA hl (t_X8_times l D cyI cyJ cyZ cyB cyO aM aM_d aM_e aM_f aM_kept aM_found aM_tape aM_came aM_got aM_held aM_off aM_comesUp aM_comesDown aM_path aM_gets aM_gotNow aM_bitsOf aM_sizeOf aM_number aM_passing vM_isKept vM_taped vM_leaked vM_keptAll vM_offAll vM_up vM_down vM_sharesUp vM_sharesDown vM_onUp vM_onDown vM_great vM_triedOff vM_triedLeaked vM_triedKept vM_fitting vM_firstSet vM_inAll vM_inAny vM_at vM_sort vM_from vM_value vM_fault t1 t2 t3 t4 u4 hu4) (cwV 4 hts gX8_shareOf_X8_times rfl rfl rfl (by decide +kernel) ⟨Nat.le_of_ble_eq_true rfl, Nat.le_of_ble_eq_true rfl⟩) 0 [0] [1, 0, 0, 0] [] (w_X8_shareOf cyI cyJ cyZ cyB cyO aM aM_d aM_comesUp aM_comesDown aM_e aM_f aM_kept aM_found aM_tape aM_came aM_got aM_held aM_off aM_path aM_gets aM_gotNow aM_bitsOf aM_sizeOf aM_number aM_passing vM_isKept vM_taped vM_leaked vM_keptAll vM_offAll u4.1 u4.2.1 vM_sharesUp vM_sharesDown vM_onUp vM_onDown u4.2.2 vM_triedOff vM_triedLeaked vM_triedKept vM_fitting vM_firstSet vM_inAll vM_inAny vM_at vM_sort vM_from vM_value vM_fault cM_d cM_comesUp cM_comesDown) rfl rfl rfl rfl rfl (by decide +kernel) rfl rfl (Nat.le_of_ble_eq_true rfl) ⟨Nat.zero_le _, Nat.zero_le _⟩ dX8_shareOf_66 (fun H locs hP hD hS => ?_)
      refine lv_aload_n hx hb dX8_shareOf_69 rfl (lv_at hl 1 rfl) ?_
      refine va_get (D := D) (ci := 7) (v := .long u4.1) (C := RX8) (T := TX8) (N := 43) hx hb hts in_X8 hown hK hP 0 rfl rfl 17 (by decide) q7 (fun _ h9 => h9) rfl dX8_shareOf_70 ?_
      refine lv_lstore (lv' := [(4, .long u4.1), (3, .int y3), (0, .ref aM), (2, .int x2)]) hx hb dX8_shareOf_73 hl (by decide) rfl (fun ls hl => ?_)
      refine lv_aload_n hx hb dX8_shareOf_75 rfl (lv_at hl 2 rfl) ?_
      refine va_get (D := D) (ci := 7) (v := .long u4.2.1) (C := RX8) (T := TX8) (N := 43) hx hb hts in_X8 hown hK hP 0 rfl rfl 18 (by decide) q8 (fun _ h9 => h9) rfl dX8_shareOf_76 ?_
      refine lv_lstore (lv' := [(6, .long u4.2.1), (4, .long u4.1), (3, .int y3), (0, .ref aM), (2, .int x2)]) hx hb dX8_shareOf_79 hl (by decide) rfl (fun ls hl => ?_)
      refine lv_aload_n hx hb dX8_shareOf_81 rfl (lv_at hl 3 rfl) ?_
      refine lv_lload hx hb dX8_shareOf_82 (lv_at hl 1 rfl) ?_
      refine lv_lload hx hb dX8_shareOf_84 (lv_at hl 0 rfl) ?_
      refine lv_iload_n hx hb dX8_shareOf_86 rfl (lv_at hl 2 rfl) ?_
      refine lv_iconst (v := 3) hx hb dX8_shareOf_87 (by decide) ?_
      refine lv_icmp_ne (tgt := 95) hx hb dX8_shareOf_88 (by decide) (fun c5 => ?_) (fun c5 => ?_)
      · have h := br_neg c5 h
        refine lv_iload_n hx hb dX8_shareOf_95 rfl (lv_at hl 2 rfl) ?_
        refine lv_iconst (v := 1) hx hb dX8_shareOf_96 (by decide) ?_
        refine lv_icmp_ne (tgt := 106) hx hb dX8_shareOf_97 (by decide) (fun c6 => ?_) (fun c6 => ?_)
        · have h := br_neg c6 h
          refine lv_lconst (v := 1) hx hb dX8_shareOf_106 (by decide) ?_
          refine lv_iload_n hx hb dX8_shareOf_107 rfl (lv_at hl 2 rfl) ?_
          refine lv_iconst (v := 1) hx hb dX8_shareOf_108 (by decide) ?_
          have j121 : ∀ (y3 : Int32) (y4 : Int64) (y6 : Int64) (t1 : Int64) (t2 : Int64) (t3 : Int64) (t4 : Int64) (vM_up : Int64) (vM_down : Int64) (vM_sharesUp : Int64) (vM_sharesDown : Int64) (vM_onUp : Int64) (vM_onDown : Int64) (vM_great : Int32) (H : Heap) (locs : List Loc) (ls : Array Slot), va_P D vwCl (w_X8_shareOf cyI cyJ cyZ cyB cyO aM aM_d aM_comesUp aM_comesDown aM_e aM_f aM_kept aM_found aM_tape aM_came aM_got aM_held aM_off aM_path aM_gets aM_gotNow aM_bitsOf aM_sizeOf aM_number aM_passing vM_isKept vM_taped vM_leaked vM_keptAll vM_offAll vM_up vM_down vM_sharesUp vM_sharesDown vM_onUp vM_onDown vM_great vM_triedOff vM_triedLeaked vM_triedKept vM_fitting vM_firstSet vM_inAll vM_inAny vM_at vM_sort vM_from vM_value vM_fault cM_d cM_comesUp cM_comesDown) H → va_D A (w_X8_shareOf cyI cyJ cyZ cyB cyO aM aM_d aM_comesUp aM_comesDown aM_e aM_f aM_kept aM_found aM_tape aM_came aM_got aM_held aM_off aM_path aM_gets aM_gotNow aM_bitsOf aM_sizeOf aM_number aM_passing vM_isKept vM_taped vM_leaked vM_keptAll vM_offAll vM_up vM_down vM_sharesUp vM_sharesDown vM_onUp vM_onDown vM_great vM_triedOff vM_triedLeaked vM_triedKept vM_fitting vM_firstSet vM_inAll vM_inAny vM_at vM_sort vM_from vM_value vM_fault cM_d cM_comesUp cM_comesDown) → va_S A s.heap H locs → lv_has ls 8 [(3, .int y3), (4, .long y4), (6, .long y6), (0, .ref aM), (2, .int x2)] → f_X8_shareOf_J121 x1 x2 cM_d cM_comesUp cM_comesDown y3 y4 y6 t1 t2 t3 t4 vM_up vM_down vM_sharesUp vM_sharesDown vM_onUp vM_onDown vM_great = some out → W p l e ({ frames := 2, cells := 0, slots := 0, locals := 63 } : Room) s m args below meth c H locs 0 0 Q (F0 m 121 ls [.long t4, .long t3, .long t2, .long t1, .ref aM]) := by
            intro y3 y4 y6 t1 t2 t3 t4 vM_up vM_down vM_sharesUp vM_sharesDown vM_onUp vM_onDown vM_great H locs ls hP hD hS hl h
            unfold f_X8_shareOf_J121 at h
            obtain ⟨u7, hu7, h⟩ := bd_some h
            refine cl_Vv (rest := []) F hK hP hD hS hA hl (t_X8_times l D cyI cyJ cyZ cyB cyO aM aM_d aM_e aM_f aM_kept aM_found aM_tape aM_came aM_got aM_held aM_off aM_comesUp aM_comesDown aM_path aM_gets aM_gotNow aM_bitsOf aM_sizeOf aM_number aM_passing vM_isKept vM_taped vM_leaked vM_keptAll vM_offAll vM_up vM_down vM_sharesUp vM_sharesDown vM_onUp vM_onDown vM_great vM_triedOff vM_triedLeaked vM_triedKept vM_fitting vM_firstSet vM_inAll vM_inAny vM_at vM_sort vM_from vM_value vM_fault t1 t2 t3 t4 u7 hu7) (cwV 4 hts gX8_shareOf_X8_times rfl rfl rfl (by decide +kernel) ⟨Nat.le_of_ble_eq_true rfl, Nat.le_of_ble_eq_true rfl⟩) 0 [0] [1, 0, 0, 0] [] (w_X8_shareOf cyI cyJ cyZ cyB cyO aM aM_d aM_comesUp aM_comesDown aM_e aM_f aM_kept aM_found aM_tape aM_came aM_got aM_held aM_off aM_path aM_gets aM_gotNow aM_bitsOf aM_sizeOf aM_number aM_passing vM_isKept vM_taped vM_leaked vM_keptAll vM_offAll u7.1 u7.2.1 vM_sharesUp vM_sharesDown vM_onUp vM_onDown u7.2.2 vM_triedOff vM_triedLeaked vM_triedKept vM_fitting vM_firstSet vM_inAll vM_inAny vM_at vM_sort vM_from vM_value vM_fault cM_d cM_comesUp cM_comesDown) rfl rfl rfl rfl rfl (by decide +kernel) rfl rfl (Nat.le_of_ble_eq_true rfl) ⟨Nat.zero_le _, Nat.zero_le _⟩ dX8_shareOf_121 (fun H locs hP hD hS => ?_)
            refine lv_aload_n hx hb dX8_shareOf_124 rfl (lv_at hl 3 rfl) ?_
            refine lv_aload_n hx hb dX8_shareOf_125 rfl (lv_at hl 3 rfl) ?_
            refine va_get (D := D) (ci := 7) (v := .long u7.1) (C := RX8) (T := TX8) (N := 43) hx hb hts in_X8 hown hK hP 0 rfl rfl 17 (by decide) q7 (fun _ h9 => h9) rfl dX8_shareOf_126 ?_
            refine va_put (D := D) (ci := 7) (v := .long u7.1) (ty := .long) (C := RX8) (T := TX8) (N := 43) hx hb hts in_X8 tyX8 tyX8_ok nmX8 hown hK hP hD hS 0 rfl rfl 19 (by decide) q11 (fun _ h9 => h9) rfl (by decide +kernel) rfl rfl (Nat.le_of_ble_eq_true rfl) dX8_shareOf_129 (fun H locs hP hD hS => ?_)
            have hP : va_P D vwCl (w_X8_shareOf cyI cyJ cyZ cyB cyO aM aM_d aM_comesUp aM_comesDown aM_e aM_f aM_kept aM_found aM_tape aM_came aM_got aM_held aM_off aM_path aM_gets aM_gotNow aM_bitsOf aM_sizeOf aM_number aM_passing vM_isKept vM_taped vM_leaked vM_keptAll vM_offAll u7.1 u7.2.1 u7.1 vM_sharesDown vM_onUp vM_onDown u7.2.2 vM_triedOff vM_triedLeaked vM_triedKept vM_fitting vM_firstSet vM_inAll vM_inAny vM_at vM_sort vM_from vM_value vM_fault cM_d cM_comesUp cM_comesDown) H := hP
            have hD : va_D A (w_X8_shareOf cyI cyJ cyZ cyB cyO aM aM_d aM_comesUp aM_comesDown aM_e aM_f aM_kept aM_found aM_tape aM_came aM_got aM_held aM_off aM_path aM_gets aM_gotNow aM_bitsOf aM_sizeOf aM_number aM_passing vM_isKept vM_taped vM_leaked vM_keptAll vM_offAll u7.1 u7.2.1 u7.1 vM_sharesDown vM_onUp vM_onDown u7.2.2 vM_triedOff vM_triedLeaked vM_triedKept vM_fitting vM_firstSet vM_inAll vM_inAny vM_at vM_sort vM_from vM_value vM_fault cM_d cM_comesUp cM_comesDown) := hD
            refine lv_aload_n hx hb dX8_shareOf_132 rfl (lv_at hl 3 rfl) ?_
            refine lv_aload_n hx hb dX8_shareOf_133 rfl (lv_at hl 3 rfl) ?_
            refine va_get (D := D) (ci := 7) (v := .long u7.2.1) (C := RX8) (T := TX8) (N := 43) hx hb hts in_X8 hown hK hP 0 rfl rfl 18 (by decide) q8 (fun _ h9 => h9) rfl dX8_shareOf_134 ?_
            refine va_put (D := D) (ci := 7) (v := .long u7.2.1) (ty := .long) (C := RX8) (T := TX8) (N := 43) hx hb hts in_X8 tyX8 tyX8_ok nmX8 hown hK hP hD hS 0 rfl rfl 20 (by decide) q12 (fun _ h9 => h9) rfl (by decide +kernel) rfl rfl (Nat.le_of_ble_eq_true rfl) dX8_shareOf_137 (fun H locs hP hD hS => ?_)
            have hP : va_P D vwCl (w_X8_shareOf cyI cyJ cyZ cyB cyO aM aM_d aM_comesUp aM_comesDown aM_e aM_f aM_kept aM_found aM_tape aM_came aM_got aM_held aM_off aM_path aM_gets aM_gotNow aM_bitsOf aM_sizeOf aM_number aM_passing vM_isKept vM_taped vM_leaked vM_keptAll vM_offAll u7.1 u7.2.1 u7.1 u7.2.1 vM_onUp vM_onDown u7.2.2 vM_triedOff vM_triedLeaked vM_triedKept vM_fitting vM_firstSet vM_inAll vM_inAny vM_at vM_sort vM_from vM_value vM_fault cM_d cM_comesUp cM_comesDown) H := hP
            have hD : va_D A (w_X8_shareOf cyI cyJ cyZ cyB cyO aM aM_d aM_comesUp aM_comesDown aM_e aM_f aM_kept aM_found aM_tape aM_came aM_got aM_held aM_off aM_path aM_gets aM_gotNow aM_bitsOf aM_sizeOf aM_number aM_passing vM_isKept vM_taped vM_leaked vM_keptAll vM_offAll u7.1 u7.2.1 u7.1 u7.2.1 vM_onUp vM_onDown u7.2.2 vM_triedOff vM_triedLeaked vM_triedKept vM_fitting vM_firstSet vM_inAll vM_inAny vM_at vM_sort vM_from vM_value vM_fault cM_d cM_comesUp cM_comesDown) := hD
            refine lv_iload_n hx hb dX8_shareOf_140 rfl (lv_at hl 4 rfl) ?_
            refine lv_if_eq (tgt := 214) hx hb dX8_shareOf_141 (by decide) (fun c8 => ?_) (fun c8 => ?_)
            · have h := br_pos c8 h
              obtain rfl := Option.some.inj h
              exact hret _ _ _ _ hP hD hS dX8_shareOf_214 
            · have h := br_neg c8 h
              refine lv_aload_n hx hb dX8_shareOf_144 rfl (lv_at hl 3 rfl) ?_
              refine lv_lload hx hb dX8_shareOf_145 (lv_at hl 1 rfl) ?_
              refine lv_lload hx hb dX8_shareOf_147 (lv_at hl 2 rfl) ?_
              refine lv_iload_n hx hb dX8_shareOf_149 rfl (lv_at hl 0 rfl) ?_
              refine lv_iconst (v := 3) hx hb dX8_shareOf_150 (by decide) ?_
              have j172 : ∀ (y3 : Int32) (t1 : Int64) (t2 : Int64) (t3 : Int64) (vM_up : Int64) (vM_down : Int64) (vM_sharesUp : Int64) (vM_sharesDown : Int64) (vM_onUp : Int64) (vM_onDown : Int64) (vM_great : Int32) (H : Heap) (locs : List Loc) (ls : Array Slot), va_P D vwCl (w_X8_shareOf cyI cyJ cyZ cyB cyO aM aM_d aM_comesUp aM_comesDown aM_e aM_f aM_kept aM_found aM_tape aM_came aM_got aM_held aM_off aM_path aM_gets aM_gotNow aM_bitsOf aM_sizeOf aM_number aM_passing vM_isKept vM_taped vM_leaked vM_keptAll vM_offAll vM_up vM_down vM_sharesUp vM_sharesDown vM_onUp vM_onDown vM_great vM_triedOff vM_triedLeaked vM_triedKept vM_fitting vM_firstSet vM_inAll vM_inAny vM_at vM_sort vM_from vM_value vM_fault cM_d cM_comesUp cM_comesDown) H → va_D A (w_X8_shareOf cyI cyJ cyZ cyB cyO aM aM_d aM_comesUp aM_comesDown aM_e aM_f aM_kept aM_found aM_tape aM_came aM_got aM_held aM_off aM_path aM_gets aM_gotNow aM_bitsOf aM_sizeOf aM_number aM_passing vM_isKept vM_taped vM_leaked vM_keptAll vM_offAll vM_up vM_down vM_sharesUp vM_sharesDown vM_onUp vM_onDown vM_great vM_triedOff vM_triedLeaked vM_triedKept vM_fitting vM_firstSet vM_inAll vM_inAny vM_at vM_sort vM_from vM_value vM_fault cM_d cM_comesUp cM_comesDown) → va_S A s.heap H locs → lv_has ls 8 [(3, .int y3), (0, .ref aM)] → f_X8_shareOf_J172 x1 x2 cM_d cM_comesUp cM_comesDown y3 t1 t2 t3 vM_up vM_down vM_sharesUp vM_sharesDown vM_onUp vM_onDown vM_great = some out → W p l e ({ frames := 2, cells := 0, slots := 0, locals := 63 } : Room) s m args below meth c H locs 0 0 Q (F0 m 172 ls [.long t3, .long t2, .long t1, .ref aM]) := by
                intro y3 t1 t2 t3 vM_up vM_down vM_sharesUp vM_sharesDown vM_onUp vM_onDown vM_great H locs ls hP hD hS hl h
                unfold f_X8_shareOf_J172 at h
                refine lv_iload_n hx hb dX8_shareOf_172 rfl (lv_at hl 0 rfl) ?_
                refine lv_iconst (v := 3) hx hb dX8_shareOf_173 (by decide) ?_
                have j195 : ∀ (t1 : Int64) (t2 : Int64) (t3 : Int64) (t4 : Int64) (vM_up : Int64) (vM_down : Int64) (vM_sharesUp : Int64) (vM_sharesDown : Int64) (vM_onUp : Int64) (vM_onDown : Int64) (vM_great : Int32) (H : Heap) (locs : List Loc) (ls : Array Slot), va_P D vwCl (w_X8_shareOf cyI cyJ cyZ cyB cyO aM aM_d aM_comesUp aM_comesDown aM_e aM_f aM_kept aM_found aM_tape aM_came aM_got aM_held aM_off aM_path aM_gets aM_gotNow aM_bitsOf aM_sizeOf aM_number aM_passing vM_isKept vM_taped vM_leaked vM_keptAll vM_offAll vM_up vM_down vM_sharesUp vM_sharesDown vM_onUp vM_onDown vM_great vM_triedOff vM_triedLeaked vM_triedKept vM_fitting vM_firstSet vM_inAll vM_inAny vM_at vM_sort vM_from vM_value vM_fault cM_d cM_comesUp cM_comesDown) H → va_D A (w_X8_shareOf cyI cyJ cyZ cyB cyO aM aM_d aM_comesUp aM_comesDown aM_e aM_f aM_kept aM_found aM_tape aM_came aM_got aM_held aM_off aM_path aM_gets aM_gotNow aM_bitsOf aM_sizeOf aM_number aM_passing vM_isKept vM_taped vM_leaked vM_keptAll vM_offAll vM_up vM_down vM_sharesUp vM_sharesDown vM_onUp vM_onDown vM_great vM_triedOff vM_triedLeaked vM_triedKept vM_fitting vM_firstSet vM_inAll vM_inAny vM_at vM_sort vM_from vM_value vM_fault cM_d cM_comesUp cM_comesDown) → va_S A s.heap H locs → lv_has ls 8 [(0, .ref aM)] → f_X8_shareOf_J195 x1 x2 cM_d cM_comesUp cM_comesDown t1 t2 t3 t4 vM_up vM_down vM_sharesUp vM_sharesDown vM_onUp vM_onDown vM_great = some out → W p l e ({ frames := 2, cells := 0, slots := 0, locals := 63 } : Room) s m args below meth c H locs 0 0 Q (F0 m 195 ls [.long t4, .long t3, .long t2, .long t1, .ref aM]) := by
                  intro t1 t2 t3 t4 vM_up vM_down vM_sharesUp vM_sharesDown vM_onUp vM_onDown vM_great H locs ls hP hD hS hl h
                  unfold f_X8_shareOf_J195 at h
                  obtain ⟨u9, hu9, h⟩ := bd_some h
                  refine cl_Vv (rest := []) F hK hP hD hS hA hl (t_X8_times l D cyI cyJ cyZ cyB cyO aM aM_d aM_e aM_f aM_kept aM_found aM_tape aM_came aM_got aM_held aM_off aM_comesUp aM_comesDown aM_path aM_gets aM_gotNow aM_bitsOf aM_sizeOf aM_number aM_passing vM_isKept vM_taped vM_leaked vM_keptAll vM_offAll vM_up vM_down vM_sharesUp vM_sharesDown vM_onUp vM_onDown vM_great vM_triedOff vM_triedLeaked vM_triedKept vM_fitting vM_firstSet vM_inAll vM_inAny vM_at vM_sort vM_from vM_value vM_fault t1 t2 t3 t4 u9 hu9) (cwV 4 hts gX8_shareOf_X8_times rfl rfl rfl (by decide +kernel) ⟨Nat.le_of_ble_eq_true rfl, Nat.le_of_ble_eq_true rfl⟩) 0 [0] [1, 0, 0, 0] [] (w_X8_shareOf cyI cyJ cyZ cyB cyO aM aM_d aM_comesUp aM_comesDown aM_e aM_f aM_kept aM_found aM_tape aM_came aM_got aM_held aM_off aM_path aM_gets aM_gotNow aM_bitsOf aM_sizeOf aM_number aM_passing vM_isKept vM_taped vM_leaked vM_keptAll vM_offAll u9.1 u9.2.1 vM_sharesUp vM_sharesDown vM_onUp vM_onDown u9.2.2 vM_triedOff vM_triedLeaked vM_triedKept vM_fitting vM_firstSet vM_inAll vM_inAny vM_at vM_sort vM_from vM_value vM_fault cM_d cM_comesUp cM_comesDown) rfl rfl rfl rfl rfl (by decide +kernel) rfl rfl (Nat.le_of_ble_eq_true rfl) ⟨Nat.zero_le _, Nat.zero_le _⟩ dX8_shareOf_195 (fun H locs hP hD hS => ?_)
                  refine lv_aload_n hx hb dX8_shareOf_198 rfl (lv_at hl 0 rfl) ?_
                  refine lv_aload_n hx hb dX8_shareOf_199 rfl (lv_at hl 0 rfl) ?_
                  refine va_get (D := D) (ci := 7) (v := .long u9.1) (C := RX8) (T := TX8) (N := 43) hx hb hts in_X8 hown hK hP 0 rfl rfl 17 (by decide) q7 (fun _ h9 => h9) rfl dX8_shareOf_200 ?_
                  refine va_put (D := D) (ci := 7) (v := .long u9.1) (ty := .long) (C := RX8) (T := TX8) (N := 43) hx hb hts in_X8 tyX8 tyX8_ok nmX8 hown hK hP hD hS 0 rfl rfl 21 (by decide) q13 (fun _ h9 => h9) rfl (by decide +kernel) rfl rfl (Nat.le_of_ble_eq_true rfl) dX8_shareOf_203 (fun H locs hP hD hS => ?_)
                  have hP : va_P D vwCl (w_X8_shareOf cyI cyJ cyZ cyB cyO aM aM_d aM_comesUp aM_comesDown aM_e aM_f aM_kept aM_found aM_tape aM_came aM_got aM_held aM_off aM_path aM_gets aM_gotNow aM_bitsOf aM_sizeOf aM_number aM_passing vM_isKept vM_taped vM_leaked vM_keptAll vM_offAll u9.1 u9.2.1 vM_sharesUp vM_sharesDown u9.1 vM_onDown u9.2.2 vM_triedOff vM_triedLeaked vM_triedKept vM_fitting vM_firstSet vM_inAll vM_inAny vM_at vM_sort vM_from vM_value vM_fault cM_d cM_comesUp cM_comesDown) H := hP
                  have hD : va_D A (w_X8_shareOf cyI cyJ cyZ cyB cyO aM aM_d aM_comesUp aM_comesDown aM_e aM_f aM_kept aM_found aM_tape aM_came aM_got aM_held aM_off aM_path aM_gets aM_gotNow aM_bitsOf aM_sizeOf aM_number aM_passing vM_isKept vM_taped vM_leaked vM_keptAll vM_offAll u9.1 u9.2.1 vM_sharesUp vM_sharesDown u9.1 vM_onDown u9.2.2 vM_triedOff vM_triedLeaked vM_triedKept vM_fitting vM_firstSet vM_inAll vM_inAny vM_at vM_sort vM_from vM_value vM_fault cM_d cM_comesUp cM_comesDown) := hD
                  refine lv_aload_n hx hb dX8_shareOf_206 rfl (lv_at hl 0 rfl) ?_
                  refine lv_aload_n hx hb dX8_shareOf_207 rfl (lv_at hl 0 rfl) ?_
                  refine va_get (D := D) (ci := 7) (v := .long u9.2.1) (C := RX8) (T := TX8) (N := 43) hx hb hts in_X8 hown hK hP 0 rfl rfl 18 (by decide) q8 (fun _ h9 => h9) rfl dX8_shareOf_208 ?_
                  refine va_put (D := D) (ci := 7) (v := .long u9.2.1) (ty := .long) (C := RX8) (T := TX8) (N := 43) hx hb hts in_X8 tyX8 tyX8_ok nmX8 hown hK hP hD hS 0 rfl rfl 22 (by decide) q14 (fun _ h9 => h9) rfl (by decide +kernel) rfl rfl (Nat.le_of_ble_eq_true rfl) dX8_shareOf_211 (fun H locs hP hD hS => ?_)
                  have hP : va_P D vwCl (w_X8_shareOf cyI cyJ cyZ cyB cyO aM aM_d aM_comesUp aM_comesDown aM_e aM_f aM_kept aM_found aM_tape aM_came aM_got aM_held aM_off aM_path aM_gets aM_gotNow aM_bitsOf aM_sizeOf aM_number aM_passing vM_isKept vM_taped vM_leaked vM_keptAll vM_offAll u9.1 u9.2.1 vM_sharesUp vM_sharesDown u9.1 u9.2.1 u9.2.2 vM_triedOff vM_triedLeaked vM_triedKept vM_fitting vM_firstSet vM_inAll vM_inAny vM_at vM_sort vM_from vM_value vM_fault cM_d cM_comesUp cM_comesDown) H := hP
                  have hD : va_D A (w_X8_shareOf cyI cyJ cyZ cyB cyO aM aM_d aM_comesUp aM_comesDown aM_e aM_f aM_kept aM_found aM_tape aM_came aM_got aM_held aM_off aM_path aM_gets aM_gotNow aM_bitsOf aM_sizeOf aM_number aM_passing vM_isKept vM_taped vM_leaked vM_keptAll vM_offAll u9.1 u9.2.1 vM_sharesUp vM_sharesDown u9.1 u9.2.1 u9.2.2 vM_triedOff vM_triedLeaked vM_triedKept vM_fitting vM_firstSet vM_inAll vM_inAny vM_at vM_sort vM_from vM_value vM_fault cM_d cM_comesUp cM_comesDown) := hD
                  obtain rfl := Option.some.inj h
                  exact hret _ _ _ _ hP hD hS dX8_shareOf_214 
                refine lv_icmp_ne (tgt := 181) hx hb dX8_shareOf_174 (by decide) (fun c10 => ?_) (fun c10 => ?_)
                · have h := br_neg c10 h
                  refine lv_iload_n hx hb dX8_shareOf_181 rfl (lv_at hl 0 rfl) ?_
                  refine lv_iconst (v := 1) hx hb dX8_shareOf_182 (by decide) ?_
                  refine lv_icmp_ne (tgt := 192) hx hb dX8_shareOf_183 (by decide) (fun c11 => ?_) (fun c11 => ?_)
                  · have h := br_neg c11 h
                    refine lv_ldc2 (v := 3) hx hb hown q10 dX8_shareOf_192 ?_
                    exact j195 t1 t2 t3 (3 : Int64) vM_up vM_down vM_sharesUp vM_sharesDown vM_onUp vM_onDown vM_great _ _ _ hP hD hS (lv_sub hl [1] rfl) h
                  · have h := br_pos c11 h
                    refine lv_ldc2 (v := 5) hx hb hown q6 dX8_shareOf_186 ?_
                    refine lv_goto (tgt := 195) hx hb dX8_shareOf_189 (by decide) ?_
                    exact j195 t1 t2 t3 (5 : Int64) vM_up vM_down vM_sharesUp vM_sharesDown vM_onUp vM_onDown vM_great _ _ _ hP hD hS (lv_sub hl [1] rfl) h
                · have h := br_pos c10 h
                  refine lv_lconst (v := 1) hx hb dX8_shareOf_177 (by decide) ?_
                  refine lv_goto (tgt := 195) hx hb dX8_shareOf_178 (by decide) ?_
                  exact j195 t1 t2 t3 (1 : Int64) vM_up vM_down vM_sharesUp vM_sharesDown vM_onUp vM_onDown vM_great _ _ _ hP hD hS (lv_sub hl [1] rfl) h
              refine lv_icmp_ne (tgt := 158) hx hb dX8_shareOf_151 (by decide) (fun c12 => ?_) (fun c12 => ?_)
              · have h := br_neg c12 h
                refine lv_iload_n hx hb dX8_shareOf_158 rfl (lv_at hl 0 rfl) ?_
                refine lv_iconst (v := 1) hx hb dX8_shareOf_159 (by decide) ?_
                refine lv_icmp_ne (tgt := 169) hx hb dX8_shareOf_160 (by decide) (fun c13 => ?_) (fun c13 => ?_)
                · have h := br_neg c13 h
                  refine lv_ldc2 (v := 2) hx hb hown q9 dX8_shareOf_169 ?_
                  exact j172 y3 y4 y6 (2 : Int64) u7.1 u7.2.1 u7.1 u7.2.1 vM_onUp vM_onDown u7.2.2 _ _ _ hP hD hS (lv_sub hl [0, 3] rfl) h
                · have h := br_pos c13 h
                  refine lv_ldc2 (v := 3) hx hb hown q10 dX8_shareOf_163 ?_
                  refine lv_goto (tgt := 172) hx hb dX8_shareOf_166 (by decide) ?_
                  exact j172 y3 y4 y6 (3 : Int64) u7.1 u7.2.1 u7.1 u7.2.1 vM_onUp vM_onDown u7.2.2 _ _ _ hP hD hS (lv_sub hl [0, 3] rfl) h
              · have h := br_pos c12 h
                refine lv_lconst (v := 1) hx hb dX8_shareOf_154 (by decide) ?_
                refine lv_goto (tgt := 172) hx hb dX8_shareOf_155 (by decide) ?_
                exact j172 y3 y4 y6 (1 : Int64) u7.1 u7.2.1 u7.1 u7.2.1 vM_onUp vM_onDown u7.2.2 _ _ _ hP hD hS (lv_sub hl [0, 3] rfl) h
          refine lv_icmp_ne (tgt := 118) hx hb dX8_shareOf_109 (by decide) (fun c14 => ?_) (fun c14 => ?_)
          · have h := br_neg c14 h
            refine lv_ldc2 (v := 3) hx hb hown q10 dX8_shareOf_118 ?_
            exact j121 y3 u4.1 u4.2.1 u4.1 u4.2.1 (1 : Int64) (3 : Int64) u4.1 u4.2.1 vM_sharesUp vM_sharesDown vM_onUp vM_onDown u4.2.2 _ _ _ hP hD hS (lv_sub hl [2, 1, 0, 3, 4] rfl) h
          · have h := br_pos c14 h
            refine lv_ldc2 (v := 5) hx hb hown q6 dX8_shareOf_112 ?_
            refine lv_goto (tgt := 121) hx hb dX8_shareOf_115 (by decide) ?_
            exact j121 y3 u4.1 u4.2.1 u4.1 u4.2.1 (1 : Int64) (5 : Int64) u4.1 u4.2.1 vM_sharesUp vM_sharesDown vM_onUp vM_onDown u4.2.2 _ _ _ hP hD hS (lv_sub hl [2, 1, 0, 3, 4] rfl) h
        · have h := br_pos c6 h
          refine lv_ldc2 (v := 2) hx hb hown q9 dX8_shareOf_100 ?_
          refine lv_goto (tgt := 107) hx hb dX8_shareOf_103 (by decide) ?_
          refine lv_iload_n hx hb dX8_shareOf_107 rfl (lv_at hl 2 rfl) ?_
          refine lv_iconst (v := 1) hx hb dX8_shareOf_108 (by decide) ?_
          have j121 : ∀ (y3 : Int32) (y4 : Int64) (y6 : Int64) (t1 : Int64) (t2 : Int64) (t3 : Int64) (t4 : Int64) (vM_up : Int64) (vM_down : Int64) (vM_sharesUp : Int64) (vM_sharesDown : Int64) (vM_onUp : Int64) (vM_onDown : Int64) (vM_great : Int32) (H : Heap) (locs : List Loc) (ls : Array Slot), va_P D vwCl (w_X8_shareOf cyI cyJ cyZ cyB cyO aM aM_d aM_comesUp aM_comesDown aM_e aM_f aM_kept aM_found aM_tape aM_came aM_got aM_held aM_off aM_path aM_gets aM_gotNow aM_bitsOf aM_sizeOf aM_number aM_passing vM_isKept vM_taped vM_leaked vM_keptAll vM_offAll vM_up vM_down vM_sharesUp vM_sharesDown vM_onUp vM_onDown vM_great vM_triedOff vM_triedLeaked vM_triedKept vM_fitting vM_firstSet vM_inAll vM_inAny vM_at vM_sort vM_from vM_value vM_fault cM_d cM_comesUp cM_comesDown) H → va_D A (w_X8_shareOf cyI cyJ cyZ cyB cyO aM aM_d aM_comesUp aM_comesDown aM_e aM_f aM_kept aM_found aM_tape aM_came aM_got aM_held aM_off aM_path aM_gets aM_gotNow aM_bitsOf aM_sizeOf aM_number aM_passing vM_isKept vM_taped vM_leaked vM_keptAll vM_offAll vM_up vM_down vM_sharesUp vM_sharesDown vM_onUp vM_onDown vM_great vM_triedOff vM_triedLeaked vM_triedKept vM_fitting vM_firstSet vM_inAll vM_inAny vM_at vM_sort vM_from vM_value vM_fault cM_d cM_comesUp cM_comesDown) → va_S A s.heap H locs → lv_has ls 8 [(3, .int y3), (4, .long y4), (6, .long y6), (0, .ref aM), (2, .int x2)] → f_X8_shareOf_J121 x1 x2 cM_d cM_comesUp cM_comesDown y3 y4 y6 t1 t2 t3 t4 vM_up vM_down vM_sharesUp vM_sharesDown vM_onUp vM_onDown vM_great = some out → W p l e ({ frames := 2, cells := 0, slots := 0, locals := 63 } : Room) s m args below meth c H locs 0 0 Q (F0 m 121 ls [.long t4, .long t3, .long t2, .long t1, .ref aM]) := by
            intro y3 y4 y6 t1 t2 t3 t4 vM_up vM_down vM_sharesUp vM_sharesDown vM_onUp vM_onDown vM_great H locs ls hP hD hS hl h
            unfold f_X8_shareOf_J121 at h
            obtain ⟨u15, hu15, h⟩ := bd_some h
            refine cl_Vv (rest := []) F hK hP hD hS hA hl (t_X8_times l D cyI cyJ cyZ cyB cyO aM aM_d aM_e aM_f aM_kept aM_found aM_tape aM_came aM_got aM_held aM_off aM_comesUp aM_comesDown aM_path aM_gets aM_gotNow aM_bitsOf aM_sizeOf aM_number aM_passing vM_isKept vM_taped vM_leaked vM_keptAll vM_offAll vM_up vM_down vM_sharesUp vM_sharesDown vM_onUp vM_onDown vM_great vM_triedOff vM_triedLeaked vM_triedKept vM_fitting vM_firstSet vM_inAll vM_inAny vM_at vM_sort vM_from vM_value vM_fault t1 t2 t3 t4 u15 hu15) (cwV 4 hts gX8_shareOf_X8_times rfl rfl rfl (by decide +kernel) ⟨Nat.le_of_ble_eq_true rfl, Nat.le_of_ble_eq_true rfl⟩) 0 [0] [1, 0, 0, 0] [] (w_X8_shareOf cyI cyJ cyZ cyB cyO aM aM_d aM_comesUp aM_comesDown aM_e aM_f aM_kept aM_found aM_tape aM_came aM_got aM_held aM_off aM_path aM_gets aM_gotNow aM_bitsOf aM_sizeOf aM_number aM_passing vM_isKept vM_taped vM_leaked vM_keptAll vM_offAll u15.1 u15.2.1 vM_sharesUp vM_sharesDown vM_onUp vM_onDown u15.2.2 vM_triedOff vM_triedLeaked vM_triedKept vM_fitting vM_firstSet vM_inAll vM_inAny vM_at vM_sort vM_from vM_value vM_fault cM_d cM_comesUp cM_comesDown) rfl rfl rfl rfl rfl (by decide +kernel) rfl rfl (Nat.le_of_ble_eq_true rfl) ⟨Nat.zero_le _, Nat.zero_le _⟩ dX8_shareOf_121 (fun H locs hP hD hS => ?_)
            refine lv_aload_n hx hb dX8_shareOf_124 rfl (lv_at hl 3 rfl) ?_
            refine lv_aload_n hx hb dX8_shareOf_125 rfl (lv_at hl 3 rfl) ?_
            refine va_get (D := D) (ci := 7) (v := .long u15.1) (C := RX8) (T := TX8) (N := 43) hx hb hts in_X8 hown hK hP 0 rfl rfl 17 (by decide) q7 (fun _ h9 => h9) rfl dX8_shareOf_126 ?_
            refine va_put (D := D) (ci := 7) (v := .long u15.1) (ty := .long) (C := RX8) (T := TX8) (N := 43) hx hb hts in_X8 tyX8 tyX8_ok nmX8 hown hK hP hD hS 0 rfl rfl 19 (by decide) q11 (fun _ h9 => h9) rfl (by decide +kernel) rfl rfl (Nat.le_of_ble_eq_true rfl) dX8_shareOf_129 (fun H locs hP hD hS => ?_)
            have hP : va_P D vwCl (w_X8_shareOf cyI cyJ cyZ cyB cyO aM aM_d aM_comesUp aM_comesDown aM_e aM_f aM_kept aM_found aM_tape aM_came aM_got aM_held aM_off aM_path aM_gets aM_gotNow aM_bitsOf aM_sizeOf aM_number aM_passing vM_isKept vM_taped vM_leaked vM_keptAll vM_offAll u15.1 u15.2.1 u15.1 vM_sharesDown vM_onUp vM_onDown u15.2.2 vM_triedOff vM_triedLeaked vM_triedKept vM_fitting vM_firstSet vM_inAll vM_inAny vM_at vM_sort vM_from vM_value vM_fault cM_d cM_comesUp cM_comesDown) H := hP
            have hD : va_D A (w_X8_shareOf cyI cyJ cyZ cyB cyO aM aM_d aM_comesUp aM_comesDown aM_e aM_f aM_kept aM_found aM_tape aM_came aM_got aM_held aM_off aM_path aM_gets aM_gotNow aM_bitsOf aM_sizeOf aM_number aM_passing vM_isKept vM_taped vM_leaked vM_keptAll vM_offAll u15.1 u15.2.1 u15.1 vM_sharesDown vM_onUp vM_onDown u15.2.2 vM_triedOff vM_triedLeaked vM_triedKept vM_fitting vM_firstSet vM_inAll vM_inAny vM_at vM_sort vM_from vM_value vM_fault cM_d cM_comesUp cM_comesDown) := hD
            refine lv_aload_n hx hb dX8_shareOf_132 rfl (lv_at hl 3 rfl) ?_
            refine lv_aload_n hx hb dX8_shareOf_133 rfl (lv_at hl 3 rfl) ?_
            refine va_get (D := D) (ci := 7) (v := .long u15.2.1) (C := RX8) (T := TX8) (N := 43) hx hb hts in_X8 hown hK hP 0 rfl rfl 18 (by decide) q8 (fun _ h9 => h9) rfl dX8_shareOf_134 ?_
            refine va_put (D := D) (ci := 7) (v := .long u15.2.1) (ty := .long) (C := RX8) (T := TX8) (N := 43) hx hb hts in_X8 tyX8 tyX8_ok nmX8 hown hK hP hD hS 0 rfl rfl 20 (by decide) q12 (fun _ h9 => h9) rfl (by decide +kernel) rfl rfl (Nat.le_of_ble_eq_true rfl) dX8_shareOf_137 (fun H locs hP hD hS => ?_)
            have hP : va_P D vwCl (w_X8_shareOf cyI cyJ cyZ cyB cyO aM aM_d aM_comesUp aM_comesDown aM_e aM_f aM_kept aM_found aM_tape aM_came aM_got aM_held aM_off aM_path aM_gets aM_gotNow aM_bitsOf aM_sizeOf aM_number aM_passing vM_isKept vM_taped vM_leaked vM_keptAll vM_offAll u15.1 u15.2.1 u15.1 u15.2.1 vM_onUp vM_onDown u15.2.2 vM_triedOff vM_triedLeaked vM_triedKept vM_fitting vM_firstSet vM_inAll vM_inAny vM_at vM_sort vM_from vM_value vM_fault cM_d cM_comesUp cM_comesDown) H := hP
            have hD : va_D A (w_X8_shareOf cyI cyJ cyZ cyB cyO aM aM_d aM_comesUp aM_comesDown aM_e aM_f aM_kept aM_found aM_tape aM_came aM_got aM_held aM_off aM_path aM_gets aM_gotNow aM_bitsOf aM_sizeOf aM_number aM_passing vM_isKept vM_taped vM_leaked vM_keptAll vM_offAll u15.1 u15.2.1 u15.1 u15.2.1 vM_onUp vM_onDown u15.2.2 vM_triedOff vM_triedLeaked vM_triedKept vM_fitting vM_firstSet vM_inAll vM_inAny vM_at vM_sort vM_from vM_value vM_fault cM_d cM_comesUp cM_comesDown) := hD
            refine lv_iload_n hx hb dX8_shareOf_140 rfl (lv_at hl 4 rfl) ?_
            refine lv_if_eq (tgt := 214) hx hb dX8_shareOf_141 (by decide) (fun c16 => ?_) (fun c16 => ?_)
            · have h := br_pos c16 h
              obtain rfl := Option.some.inj h
              exact hret _ _ _ _ hP hD hS dX8_shareOf_214 
            · have h := br_neg c16 h
              refine lv_aload_n hx hb dX8_shareOf_144 rfl (lv_at hl 3 rfl) ?_
              refine lv_lload hx hb dX8_shareOf_145 (lv_at hl 1 rfl) ?_
              refine lv_lload hx hb dX8_shareOf_147 (lv_at hl 2 rfl) ?_
              refine lv_iload_n hx hb dX8_shareOf_149 rfl (lv_at hl 0 rfl) ?_
              refine lv_iconst (v := 3) hx hb dX8_shareOf_150 (by decide) ?_
              have j172 : ∀ (y3 : Int32) (t1 : Int64) (t2 : Int64) (t3 : Int64) (vM_up : Int64) (vM_down : Int64) (vM_sharesUp : Int64) (vM_sharesDown : Int64) (vM_onUp : Int64) (vM_onDown : Int64) (vM_great : Int32) (H : Heap) (locs : List Loc) (ls : Array Slot), va_P D vwCl (w_X8_shareOf cyI cyJ cyZ cyB cyO aM aM_d aM_comesUp aM_comesDown aM_e aM_f aM_kept aM_found aM_tape aM_came aM_got aM_held aM_off aM_path aM_gets aM_gotNow aM_bitsOf aM_sizeOf aM_number aM_passing vM_isKept vM_taped vM_leaked vM_keptAll vM_offAll vM_up vM_down vM_sharesUp vM_sharesDown vM_onUp vM_onDown vM_great vM_triedOff vM_triedLeaked vM_triedKept vM_fitting vM_firstSet vM_inAll vM_inAny vM_at vM_sort vM_from vM_value vM_fault cM_d cM_comesUp cM_comesDown) H → va_D A (w_X8_shareOf cyI cyJ cyZ cyB cyO aM aM_d aM_comesUp aM_comesDown aM_e aM_f aM_kept aM_found aM_tape aM_came aM_got aM_held aM_off aM_path aM_gets aM_gotNow aM_bitsOf aM_sizeOf aM_number aM_passing vM_isKept vM_taped vM_leaked vM_keptAll vM_offAll vM_up vM_down vM_sharesUp vM_sharesDown vM_onUp vM_onDown vM_great vM_triedOff vM_triedLeaked vM_triedKept vM_fitting vM_firstSet vM_inAll vM_inAny vM_at vM_sort vM_from vM_value vM_fault cM_d cM_comesUp cM_comesDown) → va_S A s.heap H locs → lv_has ls 8 [(3, .int y3), (0, .ref aM)] → f_X8_shareOf_J172 x1 x2 cM_d cM_comesUp cM_comesDown y3 t1 t2 t3 vM_up vM_down vM_sharesUp vM_sharesDown vM_onUp vM_onDown vM_great = some out → W p l e ({ frames := 2, cells := 0, slots := 0, locals := 63 } : Room) s m args below meth c H locs 0 0 Q (F0 m 172 ls [.long t3, .long t2, .long t1, .ref aM]) := by
                intro y3 t1 t2 t3 vM_up vM_down vM_sharesUp vM_sharesDown vM_onUp vM_onDown vM_great H locs ls hP hD hS hl h
                unfold f_X8_shareOf_J172 at h
                refine lv_iload_n hx hb dX8_shareOf_172 rfl (lv_at hl 0 rfl) ?_
                refine lv_iconst (v := 3) hx hb dX8_shareOf_173 (by decide) ?_
                have j195 : ∀ (t1 : Int64) (t2 : Int64) (t3 : Int64) (t4 : Int64) (vM_up : Int64) (vM_down : Int64) (vM_sharesUp : Int64) (vM_sharesDown : Int64) (vM_onUp : Int64) (vM_onDown : Int64) (vM_great : Int32) (H : Heap) (locs : List Loc) (ls : Array Slot), va_P D vwCl (w_X8_shareOf cyI cyJ cyZ cyB cyO aM aM_d aM_comesUp aM_comesDown aM_e aM_f aM_kept aM_found aM_tape aM_came aM_got aM_held aM_off aM_path aM_gets aM_gotNow aM_bitsOf aM_sizeOf aM_number aM_passing vM_isKept vM_taped vM_leaked vM_keptAll vM_offAll vM_up vM_down vM_sharesUp vM_sharesDown vM_onUp vM_onDown vM_great vM_triedOff vM_triedLeaked vM_triedKept vM_fitting vM_firstSet vM_inAll vM_inAny vM_at vM_sort vM_from vM_value vM_fault cM_d cM_comesUp cM_comesDown) H → va_D A (w_X8_shareOf cyI cyJ cyZ cyB cyO aM aM_d aM_comesUp aM_comesDown aM_e aM_f aM_kept aM_found aM_tape aM_came aM_got aM_held aM_off aM_path aM_gets aM_gotNow aM_bitsOf aM_sizeOf aM_number aM_passing vM_isKept vM_taped vM_leaked vM_keptAll vM_offAll vM_up vM_down vM_sharesUp vM_sharesDown vM_onUp vM_onDown vM_great vM_triedOff vM_triedLeaked vM_triedKept vM_fitting vM_firstSet vM_inAll vM_inAny vM_at vM_sort vM_from vM_value vM_fault cM_d cM_comesUp cM_comesDown) → va_S A s.heap H locs → lv_has ls 8 [(0, .ref aM)] → f_X8_shareOf_J195 x1 x2 cM_d cM_comesUp cM_comesDown t1 t2 t3 t4 vM_up vM_down vM_sharesUp vM_sharesDown vM_onUp vM_onDown vM_great = some out → W p l e ({ frames := 2, cells := 0, slots := 0, locals := 63 } : Room) s m args below meth c H locs 0 0 Q (F0 m 195 ls [.long t4, .long t3, .long t2, .long t1, .ref aM]) := by
                  intro t1 t2 t3 t4 vM_up vM_down vM_sharesUp vM_sharesDown vM_onUp vM_onDown vM_great H locs ls hP hD hS hl h
                  unfold f_X8_shareOf_J195 at h
                  obtain ⟨u17, hu17, h⟩ := bd_some h
                  refine cl_Vv (rest := []) F hK hP hD hS hA hl (t_X8_times l D cyI cyJ cyZ cyB cyO aM aM_d aM_e aM_f aM_kept aM_found aM_tape aM_came aM_got aM_held aM_off aM_comesUp aM_comesDown aM_path aM_gets aM_gotNow aM_bitsOf aM_sizeOf aM_number aM_passing vM_isKept vM_taped vM_leaked vM_keptAll vM_offAll vM_up vM_down vM_sharesUp vM_sharesDown vM_onUp vM_onDown vM_great vM_triedOff vM_triedLeaked vM_triedKept vM_fitting vM_firstSet vM_inAll vM_inAny vM_at vM_sort vM_from vM_value vM_fault t1 t2 t3 t4 u17 hu17) (cwV 4 hts gX8_shareOf_X8_times rfl rfl rfl (by decide +kernel) ⟨Nat.le_of_ble_eq_true rfl, Nat.le_of_ble_eq_true rfl⟩) 0 [0] [1, 0, 0, 0] [] (w_X8_shareOf cyI cyJ cyZ cyB cyO aM aM_d aM_comesUp aM_comesDown aM_e aM_f aM_kept aM_found aM_tape aM_came aM_got aM_held aM_off aM_path aM_gets aM_gotNow aM_bitsOf aM_sizeOf aM_number aM_passing vM_isKept vM_taped vM_leaked vM_keptAll vM_offAll u17.1 u17.2.1 vM_sharesUp vM_sharesDown vM_onUp vM_onDown u17.2.2 vM_triedOff vM_triedLeaked vM_triedKept vM_fitting vM_firstSet vM_inAll vM_inAny vM_at vM_sort vM_from vM_value vM_fault cM_d cM_comesUp cM_comesDown) rfl rfl rfl rfl rfl (by decide +kernel) rfl rfl (Nat.le_of_ble_eq_true rfl) ⟨Nat.zero_le _, Nat.zero_le _⟩ dX8_shareOf_195 (fun H locs hP hD hS => ?_)
                  refine lv_aload_n hx hb dX8_shareOf_198 rfl (lv_at hl 0 rfl) ?_
                  refine lv_aload_n hx hb dX8_shareOf_199 rfl (lv_at hl 0 rfl) ?_
                  refine va_get (D := D) (ci := 7) (v := .long u17.1) (C := RX8) (T := TX8) (N := 43) hx hb hts in_X8 hown hK hP 0 rfl rfl 17 (by decide) q7 (fun _ h9 => h9) rfl dX8_shareOf_200 ?_
                  refine va_put (D := D) (ci := 7) (v := .long u17.1) (ty := .long) (C := RX8) (T := TX8) (N := 43) hx hb hts in_X8 tyX8 tyX8_ok nmX8 hown hK hP hD hS 0 rfl rfl 21 (by decide) q13 (fun _ h9 => h9) rfl (by decide +kernel) rfl rfl (Nat.le_of_ble_eq_true rfl) dX8_shareOf_203 (fun H locs hP hD hS => ?_)
                  have hP : va_P D vwCl (w_X8_shareOf cyI cyJ cyZ cyB cyO aM aM_d aM_comesUp aM_comesDown aM_e aM_f aM_kept aM_found aM_tape aM_came aM_got aM_held aM_off aM_path aM_gets aM_gotNow aM_bitsOf aM_sizeOf aM_number aM_passing vM_isKept vM_taped vM_leaked vM_keptAll vM_offAll u17.1 u17.2.1 vM_sharesUp vM_sharesDown u17.1 vM_onDown u17.2.2 vM_triedOff vM_triedLeaked vM_triedKept vM_fitting vM_firstSet vM_inAll vM_inAny vM_at vM_sort vM_from vM_value vM_fault cM_d cM_comesUp cM_comesDown) H := hP
                  have hD : va_D A (w_X8_shareOf cyI cyJ cyZ cyB cyO aM aM_d aM_comesUp aM_comesDown aM_e aM_f aM_kept aM_found aM_tape aM_came aM_got aM_held aM_off aM_path aM_gets aM_gotNow aM_bitsOf aM_sizeOf aM_number aM_passing vM_isKept vM_taped vM_leaked vM_keptAll vM_offAll u17.1 u17.2.1 vM_sharesUp vM_sharesDown u17.1 vM_onDown u17.2.2 vM_triedOff vM_triedLeaked vM_triedKept vM_fitting vM_firstSet vM_inAll vM_inAny vM_at vM_sort vM_from vM_value vM_fault cM_d cM_comesUp cM_comesDown) := hD
                  refine lv_aload_n hx hb dX8_shareOf_206 rfl (lv_at hl 0 rfl) ?_
                  refine lv_aload_n hx hb dX8_shareOf_207 rfl (lv_at hl 0 rfl) ?_
                  refine va_get (D := D) (ci := 7) (v := .long u17.2.1) (C := RX8) (T := TX8) (N := 43) hx hb hts in_X8 hown hK hP 0 rfl rfl 18 (by decide) q8 (fun _ h9 => h9) rfl dX8_shareOf_208 ?_
                  refine va_put (D := D) (ci := 7) (v := .long u17.2.1) (ty := .long) (C := RX8) (T := TX8) (N := 43) hx hb hts in_X8 tyX8 tyX8_ok nmX8 hown hK hP hD hS 0 rfl rfl 22 (by decide) q14 (fun _ h9 => h9) rfl (by decide +kernel) rfl rfl (Nat.le_of_ble_eq_true rfl) dX8_shareOf_211 (fun H locs hP hD hS => ?_)
                  have hP : va_P D vwCl (w_X8_shareOf cyI cyJ cyZ cyB cyO aM aM_d aM_comesUp aM_comesDown aM_e aM_f aM_kept aM_found aM_tape aM_came aM_got aM_held aM_off aM_path aM_gets aM_gotNow aM_bitsOf aM_sizeOf aM_number aM_passing vM_isKept vM_taped vM_leaked vM_keptAll vM_offAll u17.1 u17.2.1 vM_sharesUp vM_sharesDown u17.1 u17.2.1 u17.2.2 vM_triedOff vM_triedLeaked vM_triedKept vM_fitting vM_firstSet vM_inAll vM_inAny vM_at vM_sort vM_from vM_value vM_fault cM_d cM_comesUp cM_comesDown) H := hP
                  have hD : va_D A (w_X8_shareOf cyI cyJ cyZ cyB cyO aM aM_d aM_comesUp aM_comesDown aM_e aM_f aM_kept aM_found aM_tape aM_came aM_got aM_held aM_off aM_path aM_gets aM_gotNow aM_bitsOf aM_sizeOf aM_number aM_passing vM_isKept vM_taped vM_leaked vM_keptAll vM_offAll u17.1 u17.2.1 vM_sharesUp vM_sharesDown u17.1 u17.2.1 u17.2.2 vM_triedOff vM_triedLeaked vM_triedKept vM_fitting vM_firstSet vM_inAll vM_inAny vM_at vM_sort vM_from vM_value vM_fault cM_d cM_comesUp cM_comesDown) := hD
                  obtain rfl := Option.some.inj h
                  exact hret _ _ _ _ hP hD hS dX8_shareOf_214 
                refine lv_icmp_ne (tgt := 181) hx hb dX8_shareOf_174 (by decide) (fun c18 => ?_) (fun c18 => ?_)
                · have h := br_neg c18 h
                  refine lv_iload_n hx hb dX8_shareOf_181 rfl (lv_at hl 0 rfl) ?_
                  refine lv_iconst (v := 1) hx hb dX8_shareOf_182 (by decide) ?_
                  refine lv_icmp_ne (tgt := 192) hx hb dX8_shareOf_183 (by decide) (fun c19 => ?_) (fun c19 => ?_)
                  · have h := br_neg c19 h
                    refine lv_ldc2 (v := 3) hx hb hown q10 dX8_shareOf_192 ?_
                    exact j195 t1 t2 t3 (3 : Int64) vM_up vM_down vM_sharesUp vM_sharesDown vM_onUp vM_onDown vM_great _ _ _ hP hD hS (lv_sub hl [1] rfl) h
                  · have h := br_pos c19 h
                    refine lv_ldc2 (v := 5) hx hb hown q6 dX8_shareOf_186 ?_
                    refine lv_goto (tgt := 195) hx hb dX8_shareOf_189 (by decide) ?_
                    exact j195 t1 t2 t3 (5 : Int64) vM_up vM_down vM_sharesUp vM_sharesDown vM_onUp vM_onDown vM_great _ _ _ hP hD hS (lv_sub hl [1] rfl) h
                · have h := br_pos c18 h
                  refine lv_lconst (v := 1) hx hb dX8_shareOf_177 (by decide) ?_
                  refine lv_goto (tgt := 195) hx hb dX8_shareOf_178 (by decide) ?_
                  exact j195 t1 t2 t3 (1 : Int64) vM_up vM_down vM_sharesUp vM_sharesDown vM_onUp vM_onDown vM_great _ _ _ hP hD hS (lv_sub hl [1] rfl) h
              refine lv_icmp_ne (tgt := 158) hx hb dX8_shareOf_151 (by decide) (fun c20 => ?_) (fun c20 => ?_)
              · have h := br_neg c20 h
                refine lv_iload_n hx hb dX8_shareOf_158 rfl (lv_at hl 0 rfl) ?_
                refine lv_iconst (v := 1) hx hb dX8_shareOf_159 (by decide) ?_
                refine lv_icmp_ne (tgt := 169) hx hb dX8_shareOf_160 (by decide) (fun c21 => ?_) (fun c21 => ?_)
                · have h := br_neg c21 h
                  refine lv_ldc2 (v := 2) hx hb hown q9 dX8_shareOf_169 ?_
                  exact j172 y3 y4 y6 (2 : Int64) u15.1 u15.2.1 u15.1 u15.2.1 vM_onUp vM_onDown u15.2.2 _ _ _ hP hD hS (lv_sub hl [0, 3] rfl) h
                · have h := br_pos c21 h
                  refine lv_ldc2 (v := 3) hx hb hown q10 dX8_shareOf_163 ?_
                  refine lv_goto (tgt := 172) hx hb dX8_shareOf_166 (by decide) ?_
                  exact j172 y3 y4 y6 (3 : Int64) u15.1 u15.2.1 u15.1 u15.2.1 vM_onUp vM_onDown u15.2.2 _ _ _ hP hD hS (lv_sub hl [0, 3] rfl) h
              · have h := br_pos c20 h
                refine lv_lconst (v := 1) hx hb dX8_shareOf_154 (by decide) ?_
                refine lv_goto (tgt := 172) hx hb dX8_shareOf_155 (by decide) ?_
                exact j172 y3 y4 y6 (1 : Int64) u15.1 u15.2.1 u15.1 u15.2.1 vM_onUp vM_onDown u15.2.2 _ _ _ hP hD hS (lv_sub hl [0, 3] rfl) h
          refine lv_icmp_ne (tgt := 118) hx hb dX8_shareOf_109 (by decide) (fun c22 => ?_) (fun c22 => ?_)
          · have h := br_neg c22 h
            refine lv_ldc2 (v := 3) hx hb hown q10 dX8_shareOf_118 ?_
            exact j121 y3 u4.1 u4.2.1 u4.1 u4.2.1 (2 : Int64) (3 : Int64) u4.1 u4.2.1 vM_sharesUp vM_sharesDown vM_onUp vM_onDown u4.2.2 _ _ _ hP hD hS (lv_sub hl [2, 1, 0, 3, 4] rfl) h
          · have h := br_pos c22 h
            refine lv_ldc2 (v := 5) hx hb hown q6 dX8_shareOf_112 ?_
            refine lv_goto (tgt := 121) hx hb dX8_shareOf_115 (by decide) ?_
            exact j121 y3 u4.1 u4.2.1 u4.1 u4.2.1 (2 : Int64) (5 : Int64) u4.1 u4.2.1 vM_sharesUp vM_sharesDown vM_onUp vM_onDown u4.2.2 _ _ _ hP hD hS (lv_sub hl [2, 1, 0, 3, 4] rfl) h
      · have h := br_pos c5 h
        refine lv_lconst (v := 0) hx hb dX8_shareOf_91 (by decide) ?_
        refine lv_goto (tgt := 107) hx hb dX8_shareOf_92 (by decide) ?_
        refine lv_iload_n hx hb dX8_shareOf_107 rfl (lv_at hl 2 rfl) ?_
        refine lv_iconst (v := 1) hx hb dX8_shareOf_108 (by decide) ?_
        have j121 : ∀ (y3 : Int32) (y4 : Int64) (y6 : Int64) (t1 : Int64) (t2 : Int64) (t3 : Int64) (t4 : Int64) (vM_up : Int64) (vM_down : Int64) (vM_sharesUp : Int64) (vM_sharesDown : Int64) (vM_onUp : Int64) (vM_onDown : Int64) (vM_great : Int32) (H : Heap) (locs : List Loc) (ls : Array Slot), va_P D vwCl (w_X8_shareOf cyI cyJ cyZ cyB cyO aM aM_d aM_comesUp aM_comesDown aM_e aM_f aM_kept aM_found aM_tape aM_came aM_got aM_held aM_off aM_path aM_gets aM_gotNow aM_bitsOf aM_sizeOf aM_number aM_passing vM_isKept vM_taped vM_leaked vM_keptAll vM_offAll vM_up vM_down vM_sharesUp vM_sharesDown vM_onUp vM_onDown vM_great vM_triedOff vM_triedLeaked vM_triedKept vM_fitting vM_firstSet vM_inAll vM_inAny vM_at vM_sort vM_from vM_value vM_fault cM_d cM_comesUp cM_comesDown) H → va_D A (w_X8_shareOf cyI cyJ cyZ cyB cyO aM aM_d aM_comesUp aM_comesDown aM_e aM_f aM_kept aM_found aM_tape aM_came aM_got aM_held aM_off aM_path aM_gets aM_gotNow aM_bitsOf aM_sizeOf aM_number aM_passing vM_isKept vM_taped vM_leaked vM_keptAll vM_offAll vM_up vM_down vM_sharesUp vM_sharesDown vM_onUp vM_onDown vM_great vM_triedOff vM_triedLeaked vM_triedKept vM_fitting vM_firstSet vM_inAll vM_inAny vM_at vM_sort vM_from vM_value vM_fault cM_d cM_comesUp cM_comesDown) → va_S A s.heap H locs → lv_has ls 8 [(3, .int y3), (4, .long y4), (6, .long y6), (0, .ref aM), (2, .int x2)] → f_X8_shareOf_J121 x1 x2 cM_d cM_comesUp cM_comesDown y3 y4 y6 t1 t2 t3 t4 vM_up vM_down vM_sharesUp vM_sharesDown vM_onUp vM_onDown vM_great = some out → W p l e ({ frames := 2, cells := 0, slots := 0, locals := 63 } : Room) s m args below meth c H locs 0 0 Q (F0 m 121 ls [.long t4, .long t3, .long t2, .long t1, .ref aM]) := by
          intro y3 y4 y6 t1 t2 t3 t4 vM_up vM_down vM_sharesUp vM_sharesDown vM_onUp vM_onDown vM_great H locs ls hP hD hS hl h
          unfold f_X8_shareOf_J121 at h
          obtain ⟨u23, hu23, h⟩ := bd_some h
          refine cl_Vv (rest := []) F hK hP hD hS hA hl (t_X8_times l D cyI cyJ cyZ cyB cyO aM aM_d aM_e aM_f aM_kept aM_found aM_tape aM_came aM_got aM_held aM_off aM_comesUp aM_comesDown aM_path aM_gets aM_gotNow aM_bitsOf aM_sizeOf aM_number aM_passing vM_isKept vM_taped vM_leaked vM_keptAll vM_offAll vM_up vM_down vM_sharesUp vM_sharesDown vM_onUp vM_onDown vM_great vM_triedOff vM_triedLeaked vM_triedKept vM_fitting vM_firstSet vM_inAll vM_inAny vM_at vM_sort vM_from vM_value vM_fault t1 t2 t3 t4 u23 hu23) (cwV 4 hts gX8_shareOf_X8_times rfl rfl rfl (by decide +kernel) ⟨Nat.le_of_ble_eq_true rfl, Nat.le_of_ble_eq_true rfl⟩) 0 [0] [1, 0, 0, 0] [] (w_X8_shareOf cyI cyJ cyZ cyB cyO aM aM_d aM_comesUp aM_comesDown aM_e aM_f aM_kept aM_found aM_tape aM_came aM_got aM_held aM_off aM_path aM_gets aM_gotNow aM_bitsOf aM_sizeOf aM_number aM_passing vM_isKept vM_taped vM_leaked vM_keptAll vM_offAll u23.1 u23.2.1 vM_sharesUp vM_sharesDown vM_onUp vM_onDown u23.2.2 vM_triedOff vM_triedLeaked vM_triedKept vM_fitting vM_firstSet vM_inAll vM_inAny vM_at vM_sort vM_from vM_value vM_fault cM_d cM_comesUp cM_comesDown) rfl rfl rfl rfl rfl (by decide +kernel) rfl rfl (Nat.le_of_ble_eq_true rfl) ⟨Nat.zero_le _, Nat.zero_le _⟩ dX8_shareOf_121 (fun H locs hP hD hS => ?_)
          refine lv_aload_n hx hb dX8_shareOf_124 rfl (lv_at hl 3 rfl) ?_
          refine lv_aload_n hx hb dX8_shareOf_125 rfl (lv_at hl 3 rfl) ?_
          refine va_get (D := D) (ci := 7) (v := .long u23.1) (C := RX8) (T := TX8) (N := 43) hx hb hts in_X8 hown hK hP 0 rfl rfl 17 (by decide) q7 (fun _ h9 => h9) rfl dX8_shareOf_126 ?_
          refine va_put (D := D) (ci := 7) (v := .long u23.1) (ty := .long) (C := RX8) (T := TX8) (N := 43) hx hb hts in_X8 tyX8 tyX8_ok nmX8 hown hK hP hD hS 0 rfl rfl 19 (by decide) q11 (fun _ h9 => h9) rfl (by decide +kernel) rfl rfl (Nat.le_of_ble_eq_true rfl) dX8_shareOf_129 (fun H locs hP hD hS => ?_)
          have hP : va_P D vwCl (w_X8_shareOf cyI cyJ cyZ cyB cyO aM aM_d aM_comesUp aM_comesDown aM_e aM_f aM_kept aM_found aM_tape aM_came aM_got aM_held aM_off aM_path aM_gets aM_gotNow aM_bitsOf aM_sizeOf aM_number aM_passing vM_isKept vM_taped vM_leaked vM_keptAll vM_offAll u23.1 u23.2.1 u23.1 vM_sharesDown vM_onUp vM_onDown u23.2.2 vM_triedOff vM_triedLeaked vM_triedKept vM_fitting vM_firstSet vM_inAll vM_inAny vM_at vM_sort vM_from vM_value vM_fault cM_d cM_comesUp cM_comesDown) H := hP
          have hD : va_D A (w_X8_shareOf cyI cyJ cyZ cyB cyO aM aM_d aM_comesUp aM_comesDown aM_e aM_f aM_kept aM_found aM_tape aM_came aM_got aM_held aM_off aM_path aM_gets aM_gotNow aM_bitsOf aM_sizeOf aM_number aM_passing vM_isKept vM_taped vM_leaked vM_keptAll vM_offAll u23.1 u23.2.1 u23.1 vM_sharesDown vM_onUp vM_onDown u23.2.2 vM_triedOff vM_triedLeaked vM_triedKept vM_fitting vM_firstSet vM_inAll vM_inAny vM_at vM_sort vM_from vM_value vM_fault cM_d cM_comesUp cM_comesDown) := hD
          refine lv_aload_n hx hb dX8_shareOf_132 rfl (lv_at hl 3 rfl) ?_
          refine lv_aload_n hx hb dX8_shareOf_133 rfl (lv_at hl 3 rfl) ?_
          refine va_get (D := D) (ci := 7) (v := .long u23.2.1) (C := RX8) (T := TX8) (N := 43) hx hb hts in_X8 hown hK hP 0 rfl rfl 18 (by decide) q8 (fun _ h9 => h9) rfl dX8_shareOf_134 ?_
          refine va_put (D := D) (ci := 7) (v := .long u23.2.1) (ty := .long) (C := RX8) (T := TX8) (N := 43) hx hb hts in_X8 tyX8 tyX8_ok nmX8 hown hK hP hD hS 0 rfl rfl 20 (by decide) q12 (fun _ h9 => h9) rfl (by decide +kernel) rfl rfl (Nat.le_of_ble_eq_true rfl) dX8_shareOf_137 (fun H locs hP hD hS => ?_)
          have hP : va_P D vwCl (w_X8_shareOf cyI cyJ cyZ cyB cyO aM aM_d aM_comesUp aM_comesDown aM_e aM_f aM_kept aM_found aM_tape aM_came aM_got aM_held aM_off aM_path aM_gets aM_gotNow aM_bitsOf aM_sizeOf aM_number aM_passing vM_isKept vM_taped vM_leaked vM_keptAll vM_offAll u23.1 u23.2.1 u23.1 u23.2.1 vM_onUp vM_onDown u23.2.2 vM_triedOff vM_triedLeaked vM_triedKept vM_fitting vM_firstSet vM_inAll vM_inAny vM_at vM_sort vM_from vM_value vM_fault cM_d cM_comesUp cM_comesDown) H := hP
          have hD : va_D A (w_X8_shareOf cyI cyJ cyZ cyB cyO aM aM_d aM_comesUp aM_comesDown aM_e aM_f aM_kept aM_found aM_tape aM_came aM_got aM_held aM_off aM_path aM_gets aM_gotNow aM_bitsOf aM_sizeOf aM_number aM_passing vM_isKept vM_taped vM_leaked vM_keptAll vM_offAll u23.1 u23.2.1 u23.1 u23.2.1 vM_onUp vM_onDown u23.2.2 vM_triedOff vM_triedLeaked vM_triedKept vM_fitting vM_firstSet vM_inAll vM_inAny vM_at vM_sort vM_from vM_value vM_fault cM_d cM_comesUp cM_comesDown) := hD
          refine lv_iload_n hx hb dX8_shareOf_140 rfl (lv_at hl 4 rfl) ?_
          refine lv_if_eq (tgt := 214) hx hb dX8_shareOf_141 (by decide) (fun c24 => ?_) (fun c24 => ?_)
          · have h := br_pos c24 h
            obtain rfl := Option.some.inj h
            exact hret _ _ _ _ hP hD hS dX8_shareOf_214 
          · have h := br_neg c24 h
            refine lv_aload_n hx hb dX8_shareOf_144 rfl (lv_at hl 3 rfl) ?_
            refine lv_lload hx hb dX8_shareOf_145 (lv_at hl 1 rfl) ?_
            refine lv_lload hx hb dX8_shareOf_147 (lv_at hl 2 rfl) ?_
            refine lv_iload_n hx hb dX8_shareOf_149 rfl (lv_at hl 0 rfl) ?_
            refine lv_iconst (v := 3) hx hb dX8_shareOf_150 (by decide) ?_
            have j172 : ∀ (y3 : Int32) (t1 : Int64) (t2 : Int64) (t3 : Int64) (vM_up : Int64) (vM_down : Int64) (vM_sharesUp : Int64) (vM_sharesDown : Int64) (vM_onUp : Int64) (vM_onDown : Int64) (vM_great : Int32) (H : Heap) (locs : List Loc) (ls : Array Slot), va_P D vwCl (w_X8_shareOf cyI cyJ cyZ cyB cyO aM aM_d aM_comesUp aM_comesDown aM_e aM_f aM_kept aM_found aM_tape aM_came aM_got aM_held aM_off aM_path aM_gets aM_gotNow aM_bitsOf aM_sizeOf aM_number aM_passing vM_isKept vM_taped vM_leaked vM_keptAll vM_offAll vM_up vM_down vM_sharesUp vM_sharesDown vM_onUp vM_onDown vM_great vM_triedOff vM_triedLeaked vM_triedKept vM_fitting vM_firstSet vM_inAll vM_inAny vM_at vM_sort vM_from vM_value vM_fault cM_d cM_comesUp cM_comesDown) H → va_D A (w_X8_shareOf cyI cyJ cyZ cyB cyO aM aM_d aM_comesUp aM_comesDown aM_e aM_f aM_kept aM_found aM_tape aM_came aM_got aM_held aM_off aM_path aM_gets aM_gotNow aM_bitsOf aM_sizeOf aM_number aM_passing vM_isKept vM_taped vM_leaked vM_keptAll vM_offAll vM_up vM_down vM_sharesUp vM_sharesDown vM_onUp vM_onDown vM_great vM_triedOff vM_triedLeaked vM_triedKept vM_fitting vM_firstSet vM_inAll vM_inAny vM_at vM_sort vM_from vM_value vM_fault cM_d cM_comesUp cM_comesDown) → va_S A s.heap H locs → lv_has ls 8 [(3, .int y3), (0, .ref aM)] → f_X8_shareOf_J172 x1 x2 cM_d cM_comesUp cM_comesDown y3 t1 t2 t3 vM_up vM_down vM_sharesUp vM_sharesDown vM_onUp vM_onDown vM_great = some out → W p l e ({ frames := 2, cells := 0, slots := 0, locals := 63 } : Room) s m args below meth c H locs 0 0 Q (F0 m 172 ls [.long t3, .long t2, .long t1, .ref aM]) := by
              intro y3 t1 t2 t3 vM_up vM_down vM_sharesUp vM_sharesDown vM_onUp vM_onDown vM_great H locs ls hP hD hS hl h
              unfold f_X8_shareOf_J172 at h
              refine lv_iload_n hx hb dX8_shareOf_172 rfl (lv_at hl 0 rfl) ?_
              refine lv_iconst (v := 3) hx hb dX8_shareOf_173 (by decide) ?_
              have j195 : ∀ (t1 : Int64) (t2 : Int64) (t3 : Int64) (t4 : Int64) (vM_up : Int64) (vM_down : Int64) (vM_sharesUp : Int64) (vM_sharesDown : Int64) (vM_onUp : Int64) (vM_onDown : Int64) (vM_great : Int32) (H : Heap) (locs : List Loc) (ls : Array Slot), va_P D vwCl (w_X8_shareOf cyI cyJ cyZ cyB cyO aM aM_d aM_comesUp aM_comesDown aM_e aM_f aM_kept aM_found aM_tape aM_came aM_got aM_held aM_off aM_path aM_gets aM_gotNow aM_bitsOf aM_sizeOf aM_number aM_passing vM_isKept vM_taped vM_leaked vM_keptAll vM_offAll vM_up vM_down vM_sharesUp vM_sharesDown vM_onUp vM_onDown vM_great vM_triedOff vM_triedLeaked vM_triedKept vM_fitting vM_firstSet vM_inAll vM_inAny vM_at vM_sort vM_from vM_value vM_fault cM_d cM_comesUp cM_comesDown) H → va_D A (w_X8_shareOf cyI cyJ cyZ cyB cyO aM aM_d aM_comesUp aM_comesDown aM_e aM_f aM_kept aM_found aM_tape aM_came aM_got aM_held aM_off aM_path aM_gets aM_gotNow aM_bitsOf aM_sizeOf aM_number aM_passing vM_isKept vM_taped vM_leaked vM_keptAll vM_offAll vM_up vM_down vM_sharesUp vM_sharesDown vM_onUp vM_onDown vM_great vM_triedOff vM_triedLeaked vM_triedKept vM_fitting vM_firstSet vM_inAll vM_inAny vM_at vM_sort vM_from vM_value vM_fault cM_d cM_comesUp cM_comesDown) → va_S A s.heap H locs → lv_has ls 8 [(0, .ref aM)] → f_X8_shareOf_J195 x1 x2 cM_d cM_comesUp cM_comesDown t1 t2 t3 t4 vM_up vM_down vM_sharesUp vM_sharesDown vM_onUp vM_onDown vM_great = some out → W p l e ({ frames := 2, cells := 0, slots := 0, locals := 63 } : Room) s m args below meth c H locs 0 0 Q (F0 m 195 ls [.long t4, .long t3, .long t2, .long t1, .ref aM]) := by
                intro t1 t2 t3 t4 vM_up vM_down vM_sharesUp vM_sharesDown vM_onUp vM_onDown vM_great H locs ls hP hD hS hl h
                unfold f_X8_shareOf_J195 at h
                obtain ⟨u25, hu25, h⟩ := bd_some h
                refine cl_Vv (rest := []) F hK hP hD hS hA hl (t_X8_times l D cyI cyJ cyZ cyB cyO aM aM_d aM_e aM_f aM_kept aM_found aM_tape aM_came aM_got aM_held aM_off aM_comesUp aM_comesDown aM_path aM_gets aM_gotNow aM_bitsOf aM_sizeOf aM_number aM_passing vM_isKept vM_taped vM_leaked vM_keptAll vM_offAll vM_up vM_down vM_sharesUp vM_sharesDown vM_onUp vM_onDown vM_great vM_triedOff vM_triedLeaked vM_triedKept vM_fitting vM_firstSet vM_inAll vM_inAny vM_at vM_sort vM_from vM_value vM_fault t1 t2 t3 t4 u25 hu25) (cwV 4 hts gX8_shareOf_X8_times rfl rfl rfl (by decide +kernel) ⟨Nat.le_of_ble_eq_true rfl, Nat.le_of_ble_eq_true rfl⟩) 0 [0] [1, 0, 0, 0] [] (w_X8_shareOf cyI cyJ cyZ cyB cyO aM aM_d aM_comesUp aM_comesDown aM_e aM_f aM_kept aM_found aM_tape aM_came aM_got aM_held aM_off aM_path aM_gets aM_gotNow aM_bitsOf aM_sizeOf aM_number aM_passing vM_isKept vM_taped vM_leaked vM_keptAll vM_offAll u25.1 u25.2.1 vM_sharesUp vM_sharesDown vM_onUp vM_onDown u25.2.2 vM_triedOff vM_triedLeaked vM_triedKept vM_fitting vM_firstSet vM_inAll vM_inAny vM_at vM_sort vM_from vM_value vM_fault cM_d cM_comesUp cM_comesDown) rfl rfl rfl rfl rfl (by decide +kernel) rfl rfl (Nat.le_of_ble_eq_true rfl) ⟨Nat.zero_le _, Nat.zero_le _⟩ dX8_shareOf_195 (fun H locs hP hD hS => ?_)
                refine lv_aload_n hx hb dX8_shareOf_198 rfl (lv_at hl 0 rfl) ?_
                refine lv_aload_n hx hb dX8_shareOf_199 rfl (lv_at hl 0 rfl) ?_
                refine va_get (D := D) (ci := 7) (v := .long u25.1) (C := RX8) (T := TX8) (N := 43) hx hb hts in_X8 hown hK hP 0 rfl rfl 17 (by decide) q7 (fun _ h9 => h9) rfl dX8_shareOf_200 ?_
                refine va_put (D := D) (ci := 7) (v := .long u25.1) (ty := .long) (C := RX8) (T := TX8) (N := 43) hx hb hts in_X8 tyX8 tyX8_ok nmX8 hown hK hP hD hS 0 rfl rfl 21 (by decide) q13 (fun _ h9 => h9) rfl (by decide +kernel) rfl rfl (Nat.le_of_ble_eq_true rfl) dX8_shareOf_203 (fun H locs hP hD hS => ?_)
                have hP : va_P D vwCl (w_X8_shareOf cyI cyJ cyZ cyB cyO aM aM_d aM_comesUp aM_comesDown aM_e aM_f aM_kept aM_found aM_tape aM_came aM_got aM_held aM_off aM_path aM_gets aM_gotNow aM_bitsOf aM_sizeOf aM_number aM_passing vM_isKept vM_taped vM_leaked vM_keptAll vM_offAll u25.1 u25.2.1 vM_sharesUp vM_sharesDown u25.1 vM_onDown u25.2.2 vM_triedOff vM_triedLeaked vM_triedKept vM_fitting vM_firstSet vM_inAll vM_inAny vM_at vM_sort vM_from vM_value vM_fault cM_d cM_comesUp cM_comesDown) H := hP
                have hD : va_D A (w_X8_shareOf cyI cyJ cyZ cyB cyO aM aM_d aM_comesUp aM_comesDown aM_e aM_f aM_kept aM_found aM_tape aM_came aM_got aM_held aM_off aM_path aM_gets aM_gotNow aM_bitsOf aM_sizeOf aM_number aM_passing vM_isKept vM_taped vM_leaked vM_keptAll vM_offAll u25.1 u25.2.1 vM_sharesUp vM_sharesDown u25.1 vM_onDown u25.2.2 vM_triedOff vM_triedLeaked vM_triedKept vM_fitting vM_firstSet vM_inAll vM_inAny vM_at vM_sort vM_from vM_value vM_fault cM_d cM_comesUp cM_comesDown) := hD
                refine lv_aload_n hx hb dX8_shareOf_206 rfl (lv_at hl 0 rfl) ?_
                refine lv_aload_n hx hb dX8_shareOf_207 rfl (lv_at hl 0 rfl) ?_
                refine va_get (D := D) (ci := 7) (v := .long u25.2.1) (C := RX8) (T := TX8) (N := 43) hx hb hts in_X8 hown hK hP 0 rfl rfl 18 (by decide) q8 (fun _ h9 => h9) rfl dX8_shareOf_208 ?_
                refine va_put (D := D) (ci := 7) (v := .long u25.2.1) (ty := .long) (C := RX8) (T := TX8) (N := 43) hx hb hts in_X8 tyX8 tyX8_ok nmX8 hown hK hP hD hS 0 rfl rfl 22 (by decide) q14 (fun _ h9 => h9) rfl (by decide +kernel) rfl rfl (Nat.le_of_ble_eq_true rfl) dX8_shareOf_211 (fun H locs hP hD hS => ?_)
                have hP : va_P D vwCl (w_X8_shareOf cyI cyJ cyZ cyB cyO aM aM_d aM_comesUp aM_comesDown aM_e aM_f aM_kept aM_found aM_tape aM_came aM_got aM_held aM_off aM_path aM_gets aM_gotNow aM_bitsOf aM_sizeOf aM_number aM_passing vM_isKept vM_taped vM_leaked vM_keptAll vM_offAll u25.1 u25.2.1 vM_sharesUp vM_sharesDown u25.1 u25.2.1 u25.2.2 vM_triedOff vM_triedLeaked vM_triedKept vM_fitting vM_firstSet vM_inAll vM_inAny vM_at vM_sort vM_from vM_value vM_fault cM_d cM_comesUp cM_comesDown) H := hP
                have hD : va_D A (w_X8_shareOf cyI cyJ cyZ cyB cyO aM aM_d aM_comesUp aM_comesDown aM_e aM_f aM_kept aM_found aM_tape aM_came aM_got aM_held aM_off aM_path aM_gets aM_gotNow aM_bitsOf aM_sizeOf aM_number aM_passing vM_isKept vM_taped vM_leaked vM_keptAll vM_offAll u25.1 u25.2.1 vM_sharesUp vM_sharesDown u25.1 u25.2.1 u25.2.2 vM_triedOff vM_triedLeaked vM_triedKept vM_fitting vM_firstSet vM_inAll vM_inAny vM_at vM_sort vM_from vM_value vM_fault cM_d cM_comesUp cM_comesDown) := hD
                obtain rfl := Option.some.inj h
                exact hret _ _ _ _ hP hD hS dX8_shareOf_214 
              refine lv_icmp_ne (tgt := 181) hx hb dX8_shareOf_174 (by decide) (fun c26 => ?_) (fun c26 => ?_)
              · have h := br_neg c26 h
                refine lv_iload_n hx hb dX8_shareOf_181 rfl (lv_at hl 0 rfl) ?_
                refine lv_iconst (v := 1) hx hb dX8_shareOf_182 (by decide) ?_
                refine lv_icmp_ne (tgt := 192) hx hb dX8_shareOf_183 (by decide) (fun c27 => ?_) (fun c27 => ?_)
                · have h := br_neg c27 h
                  refine lv_ldc2 (v := 3) hx hb hown q10 dX8_shareOf_192 ?_
                  exact j195 t1 t2 t3 (3 : Int64) vM_up vM_down vM_sharesUp vM_sharesDown vM_onUp vM_onDown vM_great _ _ _ hP hD hS (lv_sub hl [1] rfl) h
                · have h := br_pos c27 h
                  refine lv_ldc2 (v := 5) hx hb hown q6 dX8_shareOf_186 ?_
                  refine lv_goto (tgt := 195) hx hb dX8_shareOf_189 (by decide) ?_
                  exact j195 t1 t2 t3 (5 : Int64) vM_up vM_down vM_sharesUp vM_sharesDown vM_onUp vM_onDown vM_great _ _ _ hP hD hS (lv_sub hl [1] rfl) h
              · have h := br_pos c26 h
                refine lv_lconst (v := 1) hx hb dX8_shareOf_177 (by decide) ?_
                refine lv_goto (tgt := 195) hx hb dX8_shareOf_178 (by decide) ?_
                exact j195 t1 t2 t3 (1 : Int64) vM_up vM_down vM_sharesUp vM_sharesDown vM_onUp vM_onDown vM_great _ _ _ hP hD hS (lv_sub hl [1] rfl) h
            refine lv_icmp_ne (tgt := 158) hx hb dX8_shareOf_151 (by decide) (fun c28 => ?_) (fun c28 => ?_)
            · have h := br_neg c28 h
              refine lv_iload_n hx hb dX8_shareOf_158 rfl (lv_at hl 0 rfl) ?_
              refine lv_iconst (v := 1) hx hb dX8_shareOf_159 (by decide) ?_
              refine lv_icmp_ne (tgt := 169) hx hb dX8_shareOf_160 (by decide) (fun c29 => ?_) (fun c29 => ?_)
              · have h := br_neg c29 h
                refine lv_ldc2 (v := 2) hx hb hown q9 dX8_shareOf_169 ?_
                exact j172 y3 y4 y6 (2 : Int64) u23.1 u23.2.1 u23.1 u23.2.1 vM_onUp vM_onDown u23.2.2 _ _ _ hP hD hS (lv_sub hl [0, 3] rfl) h
              · have h := br_pos c29 h
                refine lv_ldc2 (v := 3) hx hb hown q10 dX8_shareOf_163 ?_
                refine lv_goto (tgt := 172) hx hb dX8_shareOf_166 (by decide) ?_
                exact j172 y3 y4 y6 (3 : Int64) u23.1 u23.2.1 u23.1 u23.2.1 vM_onUp vM_onDown u23.2.2 _ _ _ hP hD hS (lv_sub hl [0, 3] rfl) h
            · have h := br_pos c28 h
              refine lv_lconst (v := 1) hx hb dX8_shareOf_154 (by decide) ?_
              refine lv_goto (tgt := 172) hx hb dX8_shareOf_155 (by decide) ?_
              exact j172 y3 y4 y6 (1 : Int64) u23.1 u23.2.1 u23.1 u23.2.1 vM_onUp vM_onDown u23.2.2 _ _ _ hP hD hS (lv_sub hl [0, 3] rfl) h
        refine lv_icmp_ne (tgt := 118) hx hb dX8_shareOf_109 (by decide) (fun c30 => ?_) (fun c30 => ?_)
        · have h := br_neg c30 h
          refine lv_ldc2 (v := 3) hx hb hown q10 dX8_shareOf_118 ?_
          exact j121 y3 u4.1 u4.2.1 u4.1 u4.2.1 (0 : Int64) (3 : Int64) u4.1 u4.2.1 vM_sharesUp vM_sharesDown vM_onUp vM_onDown u4.2.2 _ _ _ hP hD hS (lv_sub hl [2, 1, 0, 3, 4] rfl) h
        · have h := br_pos c30 h
          refine lv_ldc2 (v := 5) hx hb hown q6 dX8_shareOf_112 ?_
          refine lv_goto (tgt := 121) hx hb dX8_shareOf_115 (by decide) ?_
          exact j121 y3 u4.1 u4.2.1 u4.1 u4.2.1 (0 : Int64) (5 : Int64) u4.1 u4.2.1 vM_sharesUp vM_sharesDown vM_onUp vM_onDown u4.2.2 _ _ _ hP hD hS (lv_sub hl [2, 1, 0, 3, 4] rfl) h
    refine lv_icmp_ne (tgt := 54) hx hb dX8_shareOf_45 (by decide) (fun c31 => ?_) (fun c31 => ?_)
    · have h := br_neg c31 h
      refine lv_iload_n hx hb dX8_shareOf_54 rfl (lv_at hl 0 rfl) ?_
      refine lv_iconst (v := 4) hx hb dX8_shareOf_55 (by decide) ?_
      refine lv_icmp_ne (tgt := 65) hx hb dX8_shareOf_56 (by decide) (fun c32 => ?_) (fun c32 => ?_)
      · have h := br_neg c32 h
        refine lv_lconst (v := 1) hx hb dX8_shareOf_65 (by decide) ?_
        exact j66 y3 t1 t2 t3 (1 : Int64) vM_up vM_down vM_sharesUp vM_sharesDown vM_onUp vM_onDown vM_great _ _ _ hP hD hS (lv_sub hl [0, 1, 2] rfl) h
      · have h := br_pos c32 h
        refine lv_ldc2 (v := 5) hx hb hown q6 dX8_shareOf_59 ?_
        refine lv_goto (tgt := 66) hx hb dX8_shareOf_62 (by decide) ?_
        exact j66 y3 t1 t2 t3 (5 : Int64) vM_up vM_down vM_sharesUp vM_sharesDown vM_onUp vM_onDown vM_great _ _ _ hP hD hS (lv_sub hl [0, 1, 2] rfl) h
    · have h := br_pos c31 h
      refine lv_ldc2 (v := 10) hx hb hown q5 dX8_shareOf_48 ?_
      refine lv_goto (tgt := 66) hx hb dX8_shareOf_51 (by decide) ?_
      exact j66 y3 t1 t2 t3 (10 : Int64) vM_up vM_down vM_sharesUp vM_sharesDown vM_onUp vM_onDown vM_great _ _ _ hP hD hS (lv_sub hl [0, 1, 2] rfl) h
  refine lv_icmp_ne (tgt := 31) hx hb dX8_shareOf_22 (by decide) (fun c33 => ?_) (fun c33 => ?_)
  · have h := br_neg c33 h
    refine lv_iload_n hx hb dX8_shareOf_31 rfl (lv_at hl 0 rfl) ?_
    refine lv_iconst (v := 4) hx hb dX8_shareOf_32 (by decide) ?_
    refine lv_icmp_ne (tgt := 42) hx hb dX8_shareOf_33 (by decide) (fun c34 => ?_) (fun c34 => ?_)
    · have h := br_neg c34 h
      refine lv_lconst (v := 1) hx hb dX8_shareOf_42 (by decide) ?_
      exact j43 u1 (cM_comesUp x1.toNatClampNeg) (cM_comesDown x1.toNatClampNeg) (1 : Int64) vM_up vM_down vM_sharesUp vM_sharesDown vM_onUp vM_onDown vM_great _ _ _ hP hD hS (lv_sub hl [0, 1, 3] rfl) h
    · have h := br_pos c34 h
      refine lv_ldc2 (v := 4) hx hb hown q4 dX8_shareOf_36 ?_
      refine lv_goto (tgt := 43) hx hb dX8_shareOf_39 (by decide) ?_
      exact j43 u1 (cM_comesUp x1.toNatClampNeg) (cM_comesDown x1.toNatClampNeg) (4 : Int64) vM_up vM_down vM_sharesUp vM_sharesDown vM_onUp vM_onDown vM_great _ _ _ hP hD hS (lv_sub hl [0, 1, 3] rfl) h
  · have h := br_pos c33 h
    refine lv_ldc2 (v := 9) hx hb hown q3 dX8_shareOf_25 ?_
    refine lv_goto (tgt := 43) hx hb dX8_shareOf_28 (by decide) ?_
    exact j43 u1 (cM_comesUp x1.toNatClampNeg) (cM_comesDown x1.toNatClampNeg) (9 : Int64) vM_up vM_down vM_sharesUp vM_sharesDown vM_onUp vM_onDown vM_great _ _ _ hP hD hS (lv_sub hl [0, 1, 3] rfl) h
/-! ===== X8_wayTo ===== -/
def w_X8_wayTo (cyI cyJ cyZ cyB cyO : ClassId) (aM aM_path aM_comesUp aM_comesDown aM_d aM_e aM_f aM_kept aM_found aM_tape aM_came aM_got aM_held aM_off aM_gets aM_gotNow aM_bitsOf aM_sizeOf aM_number aM_passing : Nat) (vM_isKept : Int32) (vM_taped : Int32) (vM_leaked : Int32) (vM_keptAll : Int32) (vM_offAll : Int32) (vM_up : Int64) (vM_down : Int64) (vM_sharesUp : Int64) (vM_sharesDown : Int64) (vM_onUp : Int64) (vM_onDown : Int64) (vM_great : Int32) (vM_triedOff : Int32) (vM_triedLeaked : Int32) (vM_triedKept : Int32) (vM_fitting : Int32) (vM_firstSet : Int32) (vM_inAll : Int32) (vM_inAny : Int32) (vM_at : Int32) (vM_sort : Int32) (vM_from : Int32) (vM_value : Int64) (vM_fault : Int32) (cM_path : Nat → Int32) (cM_comesUp : Nat → Int64) (cM_comesDown : Nat → Int64) (cM_d : Nat → Int32) : va_W := [(aM, .inr (7, [.ref aM_d, .ref aM_e, .ref aM_f, .ref aM_kept, .int vM_isKept, .ref aM_found, .ref aM_tape, .int vM_taped, .ref aM_came, .ref aM_got, .ref aM_held, .ref aM_off, .int vM_leaked, .int vM_keptAll, .int vM_offAll, .ref aM_comesUp, .ref aM_comesDown, .long vM_up, .long vM_down, .long vM_sharesUp, .long vM_sharesDown, .long vM_onUp, .long vM_onDown, .int vM_great, .ref aM_path, .ref aM_gets, .int vM_triedOff, .int vM_triedLeaked, .int vM_triedKept, .ref aM_gotNow, .int vM_fitting, .int vM_firstSet, .int vM_inAll, .int vM_inAny, .int vM_at, .int vM_sort, .int vM_from, .long vM_value, .int vM_fault, .ref aM_bitsOf, .ref aM_sizeOf, .ref aM_number, .ref aM_passing])), (aM_path, .inl (cyI, 10, .inl cM_path)), (aM_comesUp, .inl (cyJ, 10, .inr (.inl cM_comesUp))), (aM_comesDown, .inl (cyJ, 10, .inr (.inl cM_comesDown))), (aM_d, .inl (cyI, 64, .inl cM_d))]
set_option maxHeartbeats 4000000 in
set_option maxRecDepth 100000 in
theorem t_X8_wayTo (l : Launch) (D : va_G) (cyI cyJ cyZ cyB cyO : ClassId) (aM aM_path aM_comesUp aM_comesDown aM_d aM_e aM_f aM_kept aM_found aM_tape aM_came aM_got aM_held aM_off aM_gets aM_gotNow aM_bitsOf aM_sizeOf aM_number aM_passing : Nat) (vM_isKept : Int32) (vM_taped : Int32) (vM_leaked : Int32) (vM_keptAll : Int32) (vM_offAll : Int32) (vM_up : Int64) (vM_down : Int64) (vM_sharesUp : Int64) (vM_sharesDown : Int64) (vM_onUp : Int64) (vM_onDown : Int64) (vM_great : Int32) (vM_triedOff : Int32) (vM_triedLeaked : Int32) (vM_triedKept : Int32) (vM_fitting : Int32) (vM_firstSet : Int32) (vM_inAll : Int32) (vM_inAny : Int32) (vM_at : Int32) (vM_sort : Int32) (vM_from : Int32) (vM_value : Int64) (vM_fault : Int32) (cM_path : Nat → Int32) (cM_comesUp : Nat → Int64) (cM_comesDown : Nat → Int64) (cM_d : Nat → Int32) (x1 : Int32) (out : Int64 × Int64 × Int64 × Int64 × Int64 × Int64 × Int32 × (Nat → Int32) × (Nat → Int64) × (Nat → Int64)) (h : f_X8_wayTo x1 vM_up vM_down vM_sharesUp vM_sharesDown vM_onUp vM_onDown vM_great cM_path cM_comesUp cM_comesDown cM_d = some out) : Mv l yX8_wayTo wsX8_wayTo ({ frames := 3, cells := 0, slots := 0, locals := 90 } : Room) D (tyA cyI cyJ cyZ cyB cyO) [.ref aM, .int x1] (w_X8_wayTo cyI cyJ cyZ cyB cyO aM aM_path aM_comesUp aM_comesDown aM_d aM_e aM_f aM_kept aM_found aM_tape aM_came aM_got aM_held aM_off aM_gets aM_gotNow aM_bitsOf aM_sizeOf aM_number aM_passing vM_isKept vM_taped vM_leaked vM_keptAll vM_offAll vM_up vM_down vM_sharesUp vM_sharesDown vM_onUp vM_onDown vM_great vM_triedOff vM_triedLeaked vM_triedKept vM_fitting vM_firstSet vM_inAll vM_inAny vM_at vM_sort vM_from vM_value vM_fault cM_path cM_comesUp cM_comesDown cM_d) (w_X8_wayTo cyI cyJ cyZ cyB cyO aM aM_path aM_comesUp aM_comesDown aM_d aM_e aM_f aM_kept aM_found aM_tape aM_came aM_got aM_held aM_off aM_gets aM_gotNow aM_bitsOf aM_sizeOf aM_number aM_passing vM_isKept vM_taped vM_leaked vM_keptAll vM_offAll out.1 out.2.1 out.2.2.1 out.2.2.2.1 out.2.2.2.2.1 out.2.2.2.2.2.1 out.2.2.2.2.2.2.1 vM_triedOff vM_triedLeaked vM_triedKept vM_fitting vM_firstSet vM_inAll vM_inAny vM_at vM_sort vM_from vM_value vM_fault out.2.2.2.2.2.2.2.1 out.2.2.2.2.2.2.2.2.1 out.2.2.2.2.2.2.2.2.2 cM_d) := by
  refine Mv.mk (cc := cX8_wayTo) (maxL := 6) (own := RX8) (by decide) rfl rfl (Nat.le_of_ble_eq_true rfl) ?_
  intro p e s m args below meth c A Q F hK hP hD hA hret ls hl
  obtain ⟨hx, hb, hml, hown, hts⟩ := id F
  have hS : va_S A s.heap s.heap [] := va_S.rf
  have hl : lv_has ls 6 [(0, .ref aM), (1, .int x1)] := hl
  have in_X8 : ∀ w ∈ wsX80, w ∈ wsX8_wayTo := by decide +kernel
  have q1 := hts (Cond.fieldLink RX8 140 "ThirdFountainModel" "great" "Z") (List.mem_of_getElem? (i := 1) rfl)
  have q3 := hts (Cond.fieldLink RX8 41 "ThirdFountainModel" "comesUp" "[J") (List.mem_of_getElem? (i := 3) rfl)
  have q4 := hts (Cond.fieldLink RX8 45 "ThirdFountainModel" "comesDown" "[J") (List.mem_of_getElem? (i := 4) rfl)
  have q2 := hts (Cond.fieldLink RX8 48 "ThirdFountainModel" "path" "[I") (List.mem_of_getElem? (i := 2) rfl)
  have q15 := hts (Cond.methodLink RX8 172 yX8_shareOf) (List.mem_of_getElem? (i := 15) rfl)
  have q5 := hts (Cond.fieldLink RX8 166 "ThirdFountainModel" "onUp" "J") (List.mem_of_getElem? (i := 5) rfl)
  have q6 := hts (Cond.fieldLink RX8 169 "ThirdFountainModel" "onDown" "J") (List.mem_of_getElem? (i := 6) rfl)
  have q9 := hts (Cond.methodLink RX8 74 yX8_its) (List.mem_of_getElem? (i := 9) rfl)
  have q35 := hts (Cond.methodLink RX8 98 yX8_edgesBelow) (List.mem_of_getElem? (i := 35) rfl)
  have q27 := hts (Cond.methodLink RX8 152 yX8_times) (List.mem_of_getElem? (i := 27) rfl)
  have q7 := hts (Cond.fieldLink RX8 133 "ThirdFountainModel" "up" "J") (List.mem_of_getElem? (i := 7) rfl)
  have q8 := hts (Cond.fieldLink RX8 137 "ThirdFountainModel" "down" "J") (List.mem_of_getElem? (i := 8) rfl)
  unfold f_X8_wayTo at h
  refine lv_aload_n hx hb dX8_wayTo_0 rfl (lv_at hl 0 rfl) ?_
  refine lv_iconst (v := 0) hx hb dX8_wayTo_1 (by decide) ?_
  refine va_put (D := D) (ci := 7) (v := .int (0 : Int32)) (ty := .boolean) (C := RX8) (T := TX8) (N := 43) hx hb hts in_X8 tyX8 tyX8_ok nmX8 hown hK hP hD hS 0 rfl rfl 23 (by decide) q1 (fun _ h9 => h9) rfl (by decide +kernel) (nz_of (Or.inl rfl)) (fz_of (Or.inl rfl)) (Nat.le_of_ble_eq_true rfl) dX8_wayTo_2 (fun H locs hP hD hS => ?_)
  have hP : va_P D vwCl (w_X8_wayTo cyI cyJ cyZ cyB cyO aM aM_path aM_comesUp aM_comesDown aM_d aM_e aM_f aM_kept aM_found aM_tape aM_came aM_got aM_held aM_off aM_gets aM_gotNow aM_bitsOf aM_sizeOf aM_number aM_passing vM_isKept vM_taped vM_leaked vM_keptAll vM_offAll vM_up vM_down vM_sharesUp vM_sharesDown vM_onUp vM_onDown (0 : Int32) vM_triedOff vM_triedLeaked vM_triedKept vM_fitting vM_firstSet vM_inAll vM_inAny vM_at vM_sort vM_from vM_value vM_fault cM_path cM_comesUp cM_comesDown cM_d) H := hP
  have hD : va_D A (w_X8_wayTo cyI cyJ cyZ cyB cyO aM aM_path aM_comesUp aM_comesDown aM_d aM_e aM_f aM_kept aM_found aM_tape aM_came aM_got aM_held aM_off aM_gets aM_gotNow aM_bitsOf aM_sizeOf aM_number aM_passing vM_isKept vM_taped vM_leaked vM_keptAll vM_offAll vM_up vM_down vM_sharesUp vM_sharesDown vM_onUp vM_onDown (0 : Int32) vM_triedOff vM_triedLeaked vM_triedKept vM_fitting vM_firstSet vM_inAll vM_inAny vM_at vM_sort vM_from vM_value vM_fault cM_path cM_comesUp cM_comesDown cM_d) := hD
  refine lv_iconst (v := 0) hx hb dX8_wayTo_5 (by decide) ?_
  refine lv_istore_n (lv' := [(2, .int (0 : Int32)), (0, .ref aM), (1, .int x1)]) hx hb dX8_wayTo_6 rfl hl (by decide) rfl (fun ls hl => ?_)
  refine lv_iload_n hx hb dX8_wayTo_7 rfl (lv_at hl 2 rfl) ?_
  refine lv_istore_n (lv' := [(3, .int x1), (2, .int (0 : Int32)), (0, .ref aM), (1, .int x1)]) hx hb dX8_wayTo_8 rfl hl (by decide) rfl (fun ls hl => ?_)
  have lp9 : ∀ (k9 : Nat) (y2 : Int32) (y3 : Int32) (vM_up : Int64) (vM_down : Int64) (vM_sharesUp : Int64) (vM_sharesDown : Int64) (vM_onUp : Int64) (vM_onDown : Int64) (vM_great : Int32) (cM_path : Nat → Int32) (cM_comesUp : Nat → Int64) (cM_comesDown : Nat → Int64) (H : Heap) (locs : List Loc) (ls : Array Slot), va_P D vwCl (w_X8_wayTo cyI cyJ cyZ cyB cyO aM aM_path aM_comesUp aM_comesDown aM_d aM_e aM_f aM_kept aM_found aM_tape aM_came aM_got aM_held aM_off aM_gets aM_gotNow aM_bitsOf aM_sizeOf aM_number aM_passing vM_isKept vM_taped vM_leaked vM_keptAll vM_offAll vM_up vM_down vM_sharesUp vM_sharesDown vM_onUp vM_onDown vM_great vM_triedOff vM_triedLeaked vM_triedKept vM_fitting vM_firstSet vM_inAll vM_inAny vM_at vM_sort vM_from vM_value vM_fault cM_path cM_comesUp cM_comesDown cM_d) H → va_D A (w_X8_wayTo cyI cyJ cyZ cyB cyO aM aM_path aM_comesUp aM_comesDown aM_d aM_e aM_f aM_kept aM_found aM_tape aM_came aM_got aM_held aM_off aM_gets aM_gotNow aM_bitsOf aM_sizeOf aM_number aM_passing vM_isKept vM_taped vM_leaked vM_keptAll vM_offAll vM_up vM_down vM_sharesUp vM_sharesDown vM_onUp vM_onDown vM_great vM_triedOff vM_triedLeaked vM_triedKept vM_fitting vM_firstSet vM_inAll vM_inAny vM_at vM_sort vM_from vM_value vM_fault cM_path cM_comesUp cM_comesDown cM_d) → va_S A s.heap H locs → lv_has ls 6 [(2, .int y2), (3, .int y3), (0, .ref aM)] → (f_X8_wayTo_L9 x1 cM_d k9) (y2, y3, vM_up, vM_down, vM_sharesUp, vM_sharesDown, vM_onUp, vM_onDown, vM_great, cM_path, cM_comesUp, cM_comesDown) = some out → W p l e ({ frames := 3, cells := 0, slots := 0, locals := 90 } : Room) s m args below meth c H locs 0 0 Q (F0 m 9 ls []) := by
    intro k9
    induction k9 with
    | zero => intro y2 y3 vM_up vM_down vM_sharesUp vM_sharesDown vM_onUp vM_onDown vM_great cM_path cM_comesUp cM_comesDown H locs ls hP hD hS hl h; cases h
    | succ k9 ih9 =>
      intro y2 y3 vM_up vM_down vM_sharesUp vM_sharesDown vM_onUp vM_onDown vM_great cM_path cM_comesUp cM_comesDown H locs ls hP hD hS hl h
      have h : f_X8_wayTo_L9_b x1 cM_d (f_X8_wayTo_L9 x1 cM_d k9) y2 y3 vM_up vM_down vM_sharesUp vM_sharesDown vM_onUp vM_onDown vM_great cM_path cM_comesUp cM_comesDown = some out := h
      unfold f_X8_wayTo_L9_b at h
      refine lv_iload_n hx hb dX8_wayTo_9 rfl (lv_at hl 1 rfl) ?_
      have j33 : ∀ (y2 : Int32) (vM_up : Int64) (vM_down : Int64) (vM_sharesUp : Int64) (vM_sharesDown : Int64) (vM_onUp : Int64) (vM_onDown : Int64) (vM_great : Int32) (cM_path : Nat → Int32) (cM_comesUp : Nat → Int64) (cM_comesDown : Nat → Int64) (H : Heap) (locs : List Loc) (ls : Array Slot), va_P D vwCl (w_X8_wayTo cyI cyJ cyZ cyB cyO aM aM_path aM_comesUp aM_comesDown aM_d aM_e aM_f aM_kept aM_found aM_tape aM_came aM_got aM_held aM_off aM_gets aM_gotNow aM_bitsOf aM_sizeOf aM_number aM_passing vM_isKept vM_taped vM_leaked vM_keptAll vM_offAll vM_up vM_down vM_sharesUp vM_sharesDown vM_onUp vM_onDown vM_great vM_triedOff vM_triedLeaked vM_triedKept vM_fitting vM_firstSet vM_inAll vM_inAny vM_at vM_sort vM_from vM_value vM_fault cM_path cM_comesUp cM_comesDown cM_d) H → va_D A (w_X8_wayTo cyI cyJ cyZ cyB cyO aM aM_path aM_comesUp aM_comesDown aM_d aM_e aM_f aM_kept aM_found aM_tape aM_came aM_got aM_held aM_off aM_gets aM_gotNow aM_bitsOf aM_sizeOf aM_number aM_passing vM_isKept vM_taped vM_leaked vM_keptAll vM_offAll vM_up vM_down vM_sharesUp vM_sharesDown vM_onUp vM_onDown vM_great vM_triedOff vM_triedLeaked vM_triedKept vM_fitting vM_firstSet vM_inAll vM_inAny vM_at vM_sort vM_from vM_value vM_fault cM_path cM_comesUp cM_comesDown cM_d) → va_S A s.heap H locs → lv_has ls 6 [(2, .int y2), (0, .ref aM)] → f_X8_wayTo_J33 x1 cM_d y2 vM_up vM_down vM_sharesUp vM_sharesDown vM_onUp vM_onDown vM_great cM_path cM_comesUp cM_comesDown = some out → W p l e ({ frames := 3, cells := 0, slots := 0, locals := 90 } : Room) s m args below meth c H locs 0 0 Q (F0 m 33 ls []) := by
        intro y2 vM_up vM_down vM_sharesUp vM_sharesDown vM_onUp vM_onDown vM_great cM_path cM_comesUp cM_comesDown H locs ls hP hD hS hl h
        unfold f_X8_wayTo_J33 at h
        refine lv_aload_n hx hb dX8_wayTo_33 rfl (lv_at hl 1 rfl) ?_
        refine va_get (D := D) (ci := 7) (v := .ref aM_comesUp) (C := RX8) (T := TX8) (N := 43) hx hb hts in_X8 hown hK hP 0 rfl rfl 15 (by decide) q3 (fun _ h9 => h9) rfl dX8_wayTo_34 ?_
        refine lv_iconst (v := 0) hx hb dX8_wayTo_37 (by decide) ?_
        refine lv_lconst (v := 1) hx hb dX8_wayTo_38 (by decide) ?_
        refine va_last hx hb hK hP hD hS 2 1 rfl rfl (by unfold vp_in; decide) dX8_wayTo_39 (fun H locs hP hD hS => ?_)
        have hP : va_P D vwCl (w_X8_wayTo cyI cyJ cyZ cyB cyO aM aM_path aM_comesUp aM_comesDown aM_d aM_e aM_f aM_kept aM_found aM_tape aM_came aM_got aM_held aM_off aM_gets aM_gotNow aM_bitsOf aM_sizeOf aM_number aM_passing vM_isKept vM_taped vM_leaked vM_keptAll vM_offAll vM_up vM_down vM_sharesUp vM_sharesDown vM_onUp vM_onDown vM_great vM_triedOff vM_triedLeaked vM_triedKept vM_fitting vM_firstSet vM_inAll vM_inAny vM_at vM_sort vM_from vM_value vM_fault cM_path (vp_updL cM_comesUp (0 : Int32).toNatClampNeg (1 : Int64)) cM_comesDown cM_d) H := hP
        have hD : va_D A (w_X8_wayTo cyI cyJ cyZ cyB cyO aM aM_path aM_comesUp aM_comesDown aM_d aM_e aM_f aM_kept aM_found aM_tape aM_came aM_got aM_held aM_off aM_gets aM_gotNow aM_bitsOf aM_sizeOf aM_number aM_passing vM_isKept vM_taped vM_leaked vM_keptAll vM_offAll vM_up vM_down vM_sharesUp vM_sharesDown vM_onUp vM_onDown vM_great vM_triedOff vM_triedLeaked vM_triedKept vM_fitting vM_firstSet vM_inAll vM_inAny vM_at vM_sort vM_from vM_value vM_fault cM_path (vp_updL cM_comesUp (0 : Int32).toNatClampNeg (1 : Int64)) cM_comesDown cM_d) := hD
        refine lv_aload_n hx hb dX8_wayTo_40 rfl (lv_at hl 1 rfl) ?_
        refine va_get (D := D) (ci := 7) (v := .ref aM_comesDown) (C := RX8) (T := TX8) (N := 43) hx hb hts in_X8 hown hK hP 0 rfl rfl 16 (by decide) q4 (fun _ h9 => h9) rfl dX8_wayTo_41 ?_
        refine lv_iconst (v := 0) hx hb dX8_wayTo_44 (by decide) ?_
        refine lv_lconst (v := 1) hx hb dX8_wayTo_45 (by decide) ?_
        refine va_last hx hb hK hP hD hS 3 1 rfl rfl (by unfold vp_in; decide) dX8_wayTo_46 (fun H locs hP hD hS => ?_)
        have hP : va_P D vwCl (w_X8_wayTo cyI cyJ cyZ cyB cyO aM aM_path aM_comesUp aM_comesDown aM_d aM_e aM_f aM_kept aM_found aM_tape aM_came aM_got aM_held aM_off aM_gets aM_gotNow aM_bitsOf aM_sizeOf aM_number aM_passing vM_isKept vM_taped vM_leaked vM_keptAll vM_offAll vM_up vM_down vM_sharesUp vM_sharesDown vM_onUp vM_onDown vM_great vM_triedOff vM_triedLeaked vM_triedKept vM_fitting vM_firstSet vM_inAll vM_inAny vM_at vM_sort vM_from vM_value vM_fault cM_path (vp_updL cM_comesUp (0 : Int32).toNatClampNeg (1 : Int64)) (vp_updL cM_comesDown (0 : Int32).toNatClampNeg (1 : Int64)) cM_d) H := hP
        have hD : va_D A (w_X8_wayTo cyI cyJ cyZ cyB cyO aM aM_path aM_comesUp aM_comesDown aM_d aM_e aM_f aM_kept aM_found aM_tape aM_came aM_got aM_held aM_off aM_gets aM_gotNow aM_bitsOf aM_sizeOf aM_number aM_passing vM_isKept vM_taped vM_leaked vM_keptAll vM_offAll vM_up vM_down vM_sharesUp vM_sharesDown vM_onUp vM_onDown vM_great vM_triedOff vM_triedLeaked vM_triedKept vM_fitting vM_firstSet vM_inAll vM_inAny vM_at vM_sort vM_from vM_value vM_fault cM_path (vp_updL cM_comesUp (0 : Int32).toNatClampNeg (1 : Int64)) (vp_updL cM_comesDown (0 : Int32).toNatClampNeg (1 : Int64)) cM_d) := hD
        refine lv_iload_n hx hb dX8_wayTo_47 rfl (lv_at hl 0 rfl) ?_
        refine lv_iconst (v := 2) hx hb dX8_wayTo_48 (by decide) ?_
        refine lv_isub hx hb dX8_wayTo_49 ?_
        refine lv_topi (fun z1 ez1 => ?_)
        have h := nm_at ez1 h
        refine lv_istore_n (lv' := [(3, .int z1), (2, .int y2), (0, .ref aM)]) hx hb dX8_wayTo_50 rfl hl (by decide) rfl (fun ls hl => ?_)
        have lp51 : ∀ (k51 : Nat) (y3 : Int32) (vM_up : Int64) (vM_down : Int64) (vM_sharesUp : Int64) (vM_sharesDown : Int64) (vM_onUp : Int64) (vM_onDown : Int64) (vM_great : Int32) (cM_path : Nat → Int32) (cM_comesUp : Nat → Int64) (cM_comesDown : Nat → Int64) (H : Heap) (locs : List Loc) (ls : Array Slot), va_P D vwCl (w_X8_wayTo cyI cyJ cyZ cyB cyO aM aM_path aM_comesUp aM_comesDown aM_d aM_e aM_f aM_kept aM_found aM_tape aM_came aM_got aM_held aM_off aM_gets aM_gotNow aM_bitsOf aM_sizeOf aM_number aM_passing vM_isKept vM_taped vM_leaked vM_keptAll vM_offAll vM_up vM_down vM_sharesUp vM_sharesDown vM_onUp vM_onDown vM_great vM_triedOff vM_triedLeaked vM_triedKept vM_fitting vM_firstSet vM_inAll vM_inAny vM_at vM_sort vM_from vM_value vM_fault cM_path cM_comesUp cM_comesDown cM_d) H → va_D A (w_X8_wayTo cyI cyJ cyZ cyB cyO aM aM_path aM_comesUp aM_comesDown aM_d aM_e aM_f aM_kept aM_found aM_tape aM_came aM_got aM_held aM_off aM_gets aM_gotNow aM_bitsOf aM_sizeOf aM_number aM_passing vM_isKept vM_taped vM_leaked vM_keptAll vM_offAll vM_up vM_down vM_sharesUp vM_sharesDown vM_onUp vM_onDown vM_great vM_triedOff vM_triedLeaked vM_triedKept vM_fitting vM_firstSet vM_inAll vM_inAny vM_at vM_sort vM_from vM_value vM_fault cM_path cM_comesUp cM_comesDown cM_d) → va_S A s.heap H locs → lv_has ls 6 [(3, .int y3), (0, .ref aM)] → (f_X8_wayTo_L51 x1 cM_d k51) (y3, vM_up, vM_down, vM_sharesUp, vM_sharesDown, vM_onUp, vM_onDown, vM_great, cM_path, cM_comesUp, cM_comesDown) = some out → W p l e ({ frames := 3, cells := 0, slots := 0, locals := 90 } : Room) s m args below meth c H locs 0 0 Q (F0 m 51 ls []) := by
          intro k51
          induction k51 with
          | zero => intro y3 vM_up vM_down vM_sharesUp vM_sharesDown vM_onUp vM_onDown vM_great cM_path cM_comesUp cM_comesDown H locs ls hP hD hS hl h; cases h
          | succ k51 ih51 =>
            intro y3 vM_up vM_down vM_sharesUp vM_sharesDown vM_onUp vM_onDown vM_great cM_path cM_comesUp cM_comesDown H locs ls hP hD hS hl h
            have h : f_X8_wayTo_L51_b x1 cM_d (f_X8_wayTo_L51 x1 cM_d k51) y3 vM_up vM_down vM_sharesUp vM_sharesDown vM_onUp vM_onDown vM_great cM_path cM_comesUp cM_comesDown = some out := h
            unfold f_X8_wayTo_L51_b at h
            refine lv_iload_n hx hb dX8_wayTo_51 rfl (lv_at hl 0 rfl) ?_
            refine lv_if_lt (tgt := 150) hx hb dX8_wayTo_52 (by decide) (fun c2 => ?_) (fun c2 => ?_)
            · have h := br_pos c2 h
              obtain rfl := Option.some.inj h
              exact hret _ _ _ _ hP hD hS dX8_wayTo_150 
            · have h := br_neg c2 h
              refine lv_aload_n hx hb dX8_wayTo_55 rfl (lv_at hl 1 rfl) ?_
              refine va_get (D := D) (ci := 7) (v := .int vM_great) (C := RX8) (T := TX8) (N := 43) hx hb hts in_X8 hown hK hP 0 rfl rfl 23 (by decide) q1 (fun _ h9 => h9) rfl dX8_wayTo_56 ?_
              refine lv_if_ne (tgt := 150) hx hb dX8_wayTo_59 (by decide) (fun c3 => ?_) (fun c3 => ?_)
              · have h := br_neg c3 h
                obtain rfl := Option.some.inj h
                exact hret _ _ _ _ hP hD hS dX8_wayTo_150 
              · have h := br_pos c3 h
                refine lv_aload_n hx hb dX8_wayTo_62 rfl (lv_at hl 1 rfl) ?_
                refine va_get (D := D) (ci := 7) (v := .ref aM_path) (C := RX8) (T := TX8) (N := 43) hx hb hts in_X8 hown hK hP 0 rfl rfl 24 (by decide) q2 (fun _ h9 => h9) rfl dX8_wayTo_63 ?_
                refine lv_iload_n hx hb dX8_wayTo_66 rfl (lv_at hl 0 rfl) ?_
                obtain ⟨g4, h⟩ := gd_some h
                refine va_iald hx hb hK hP 1 0 rfl rfl g4 dX8_wayTo_67 ?_
                refine lv_topi (fun z5 ez5 => ?_)
                have h := nm_at ez5 h
                refine lv_istore (lv' := [(4, .int z5), (3, .int y3), (0, .ref aM)]) hx hb dX8_wayTo_68 hl (by decide) rfl (fun ls hl => ?_)
                refine lv_aload_n hx hb dX8_wayTo_70 rfl (lv_at hl 2 rfl) ?_
                refine va_get (D := D) (ci := 7) (v := .ref aM_path) (C := RX8) (T := TX8) (N := 43) hx hb hts in_X8 hown hK hP 0 rfl rfl 24 (by decide) q2 (fun _ h9 => h9) rfl dX8_wayTo_71 ?_
                refine lv_iload_n hx hb dX8_wayTo_74 rfl (lv_at hl 1 rfl) ?_
                refine lv_iconst (v := 1) hx hb dX8_wayTo_75 (by decide) ?_
                refine lv_iadd hx hb dX8_wayTo_76 ?_
                obtain ⟨g6, h⟩ := gd_some h
                refine va_iald hx hb hK hP 1 0 rfl rfl g6 dX8_wayTo_77 ?_
                refine lv_topi (fun z7 ez7 => ?_)
                have h := nm_at ez7 h
                refine lv_istore (lv' := [(5, .int z7), (4, .int z5), (3, .int y3), (0, .ref aM)]) hx hb dX8_wayTo_78 hl (by decide) rfl (fun ls hl => ?_)
                refine lv_aload_n hx hb dX8_wayTo_80 rfl (lv_at hl 3 rfl) ?_
                refine lv_iload hx hb dX8_wayTo_81 (lv_at hl 0 rfl) ?_
                refine lv_iconst (v := 1) hx hb dX8_wayTo_83 (by decide) ?_
                obtain ⟨u8, hu8, h⟩ := bd_some h
                refine cl_Vv (rest := []) F hK hP hD hS hA hl (t_X8_shareOf l D cyI cyJ cyZ cyB cyO aM aM_d aM_comesUp aM_comesDown aM_e aM_f aM_kept aM_found aM_tape aM_came aM_got aM_held aM_off aM_path aM_gets aM_gotNow aM_bitsOf aM_sizeOf aM_number aM_passing vM_isKept vM_taped vM_leaked vM_keptAll vM_offAll vM_up vM_down vM_sharesUp vM_sharesDown vM_onUp vM_onDown vM_great vM_triedOff vM_triedLeaked vM_triedKept vM_fitting vM_firstSet vM_inAll vM_inAny vM_at vM_sort vM_from vM_value vM_fault cM_d cM_comesUp cM_comesDown z7 (1 : Int32) u8 hu8) (cwV 2 hts gX8_wayTo_X8_shareOf rfl rfl rfl (by decide +kernel) ⟨Nat.le_of_ble_eq_true rfl, Nat.le_of_ble_eq_true rfl⟩) 0 [0, 4, 2, 3] [1, 0, 3, 4, 2] [] (w_X8_wayTo cyI cyJ cyZ cyB cyO aM aM_path aM_comesUp aM_comesDown aM_d aM_e aM_f aM_kept aM_found aM_tape aM_came aM_got aM_held aM_off aM_gets aM_gotNow aM_bitsOf aM_sizeOf aM_number aM_passing vM_isKept vM_taped vM_leaked vM_keptAll vM_offAll u8.1 u8.2.1 u8.2.2.1 u8.2.2.2.1 u8.2.2.2.2.1 u8.2.2.2.2.2.1 u8.2.2.2.2.2.2 vM_triedOff vM_triedLeaked vM_triedKept vM_fitting vM_firstSet vM_inAll vM_inAny vM_at vM_sort vM_from vM_value vM_fault cM_path cM_comesUp cM_comesDown cM_d) rfl rfl rfl rfl rfl (by decide +kernel) rfl rfl (Nat.le_of_ble_eq_true rfl) ⟨Nat.zero_le _, Nat.zero_le _⟩ dX8_wayTo_84 (fun H locs hP hD hS => ?_)
                refine lv_aload_n hx hb dX8_wayTo_87 rfl (lv_at hl 3 rfl) ?_
                refine va_get (D := D) (ci := 7) (v := .int u8.2.2.2.2.2.2) (C := RX8) (T := TX8) (N := 43) hx hb hts in_X8 hown hK hP 0 rfl rfl 23 (by decide) q1 (fun _ h9 => h9) rfl dX8_wayTo_88 ?_
                refine lv_if_eq (tgt := 95) hx hb dX8_wayTo_91 (by decide) (fun c9 => ?_) (fun c9 => ?_)
                · have h := br_pos c9 h
                  refine lv_aload_n hx hb dX8_wayTo_95 rfl (lv_at hl 3 rfl) ?_
                  refine lv_aload_n hx hb dX8_wayTo_96 rfl (lv_at hl 3 rfl) ?_
                  refine va_get (D := D) (ci := 7) (v := .long u8.2.2.2.2.1) (C := RX8) (T := TX8) (N := 43) hx hb hts in_X8 hown hK hP 0 rfl rfl 21 (by decide) q5 (fun _ h9 => h9) rfl dX8_wayTo_97 ?_
                  refine lv_aload_n hx hb dX8_wayTo_100 rfl (lv_at hl 3 rfl) ?_
                  refine va_get (D := D) (ci := 7) (v := .long u8.2.2.2.2.2.1) (C := RX8) (T := TX8) (N := 43) hx hb hts in_X8 hown hK hP 0 rfl rfl 22 (by decide) q6 (fun _ h9 => h9) rfl dX8_wayTo_101 ?_
                  refine lv_aload_n hx hb dX8_wayTo_104 rfl (lv_at hl 3 rfl) ?_
                  refine lv_iload hx hb dX8_wayTo_105 (lv_at hl 1 rfl) ?_
                  refine lv_iconst (v := 2) hx hb dX8_wayTo_107 (by decide) ?_
                  obtain ⟨u10, hu10, h⟩ := bd_some h
                  refine cl_Vi (rest := [.long u8.2.2.2.2.2.1, .long u8.2.2.2.2.1, .ref aM]) F hK hP hD hS hA hl (t_X8_its l D cyI cyJ cyZ cyB cyO aM aM_d aM_e aM_f aM_kept aM_found aM_tape aM_came aM_got aM_held aM_off aM_comesUp aM_comesDown aM_path aM_gets aM_gotNow aM_bitsOf aM_sizeOf aM_number aM_passing vM_isKept vM_taped vM_leaked vM_keptAll vM_offAll u8.1 u8.2.1 u8.2.2.1 u8.2.2.2.1 u8.2.2.2.2.1 u8.2.2.2.2.2.1 u8.2.2.2.2.2.2 vM_triedOff vM_triedLeaked vM_triedKept vM_fitting vM_firstSet vM_inAll vM_inAny vM_at vM_sort vM_from vM_value vM_fault cM_d z5 (2 : Int32) u10 hu10) (cwV 2 hts gX8_wayTo_X8_its rfl rfl rfl (by decide +kernel) ⟨Nat.le_of_ble_eq_true rfl, Nat.le_of_ble_eq_true rfl⟩) 0 [0, 4] [1, 0, 0, 0, 2] [] (w_X8_wayTo cyI cyJ cyZ cyB cyO aM aM_path aM_comesUp aM_comesDown aM_d aM_e aM_f aM_kept aM_found aM_tape aM_came aM_got aM_held aM_off aM_gets aM_gotNow aM_bitsOf aM_sizeOf aM_number aM_passing vM_isKept vM_taped vM_leaked vM_keptAll vM_offAll u8.1 u8.2.1 u8.2.2.1 u8.2.2.2.1 u8.2.2.2.2.1 u8.2.2.2.2.2.1 u8.2.2.2.2.2.2 vM_triedOff vM_triedLeaked vM_triedKept vM_fitting vM_firstSet vM_inAll vM_inAny vM_at vM_sort vM_from vM_value vM_fault cM_path cM_comesUp cM_comesDown cM_d) rfl rfl rfl rfl rfl (by decide +kernel) rfl rfl (Nat.le_of_ble_eq_true rfl) ⟨Nat.zero_le _, Nat.zero_le _⟩ dX8_wayTo_108 (fun H locs hP hD hS => ?_)
                  refine lv_i2l hx hb dX8_wayTo_111 rfl ?_
                  refine lv_aload_n hx hb dX8_wayTo_112 rfl (lv_at hl 3 rfl) ?_
                  refine lv_iload hx hb dX8_wayTo_113 (lv_at hl 0 rfl) ?_
                  obtain ⟨u11, hu11, h⟩ := bd_some h
                  refine cl_Vi (rest := [.long u10.toInt64, .long u8.2.2.2.2.2.1, .long u8.2.2.2.2.1, .ref aM]) F hK hP hD hS hA hl (t_X8_edgesBelow l D cyI cyJ cyZ cyB cyO aM aM_d aM_e aM_f aM_kept aM_found aM_tape aM_came aM_got aM_held aM_off aM_comesUp aM_comesDown aM_path aM_gets aM_gotNow aM_bitsOf aM_sizeOf aM_number aM_passing vM_isKept vM_taped vM_leaked vM_keptAll vM_offAll u8.1 u8.2.1 u8.2.2.1 u8.2.2.2.1 u8.2.2.2.2.1 u8.2.2.2.2.2.1 u8.2.2.2.2.2.2 vM_triedOff vM_triedLeaked vM_triedKept vM_fitting vM_firstSet vM_inAll vM_inAny vM_at vM_sort vM_from vM_value vM_fault cM_d z7 u11 hu11) (cwV 1 hts gX8_wayTo_X8_edgesBelow rfl rfl rfl (by decide +kernel) ⟨Nat.le_of_ble_eq_true rfl, Nat.le_of_ble_eq_true rfl⟩) 0 [0, 4] [1, 0, 0, 0, 2] [] (w_X8_wayTo cyI cyJ cyZ cyB cyO aM aM_path aM_comesUp aM_comesDown aM_d aM_e aM_f aM_kept aM_found aM_tape aM_came aM_got aM_held aM_off aM_gets aM_gotNow aM_bitsOf aM_sizeOf aM_number aM_passing vM_isKept vM_taped vM_leaked vM_keptAll vM_offAll u8.1 u8.2.1 u8.2.2.1 u8.2.2.2.1 u8.2.2.2.2.1 u8.2.2.2.2.2.1 u8.2.2.2.2.2.2 vM_triedOff vM_triedLeaked vM_triedKept vM_fitting vM_firstSet vM_inAll vM_inAny vM_at vM_sort vM_from vM_value vM_fault cM_path cM_comesUp cM_comesDown cM_d) rfl rfl rfl rfl rfl (by decide +kernel) rfl rfl (Nat.le_of_ble_eq_true rfl) ⟨Nat.zero_le _, Nat.zero_le _⟩ dX8_wayTo_115 (fun H locs hP hD hS => ?_)
                  refine lv_i2l hx hb dX8_wayTo_118 rfl ?_
                  obtain ⟨u12, hu12, h⟩ := bd_some h
                  refine cl_Vv (rest := []) F hK hP hD hS hA hl (t_X8_times l D cyI cyJ cyZ cyB cyO aM aM_d aM_e aM_f aM_kept aM_found aM_tape aM_came aM_got aM_held aM_off aM_comesUp aM_comesDown aM_path aM_gets aM_gotNow aM_bitsOf aM_sizeOf aM_number aM_passing vM_isKept vM_taped vM_leaked vM_keptAll vM_offAll u8.1 u8.2.1 u8.2.2.1 u8.2.2.2.1 u8.2.2.2.2.1 u8.2.2.2.2.2.1 u8.2.2.2.2.2.2 vM_triedOff vM_triedLeaked vM_triedKept vM_fitting vM_firstSet vM_inAll vM_inAny vM_at vM_sort vM_from vM_value vM_fault u8.2.2.2.2.1 u8.2.2.2.2.2.1 u10.toInt64 u11.toInt64 u12 hu12) (cwV 4 hts gX8_wayTo_X8_times rfl rfl rfl (by decide +kernel) ⟨Nat.le_of_ble_eq_true rfl, Nat.le_of_ble_eq_true rfl⟩) 0 [0] [1, 0, 0, 0, 0] [] (w_X8_wayTo cyI cyJ cyZ cyB cyO aM aM_path aM_comesUp aM_comesDown aM_d aM_e aM_f aM_kept aM_found aM_tape aM_came aM_got aM_held aM_off aM_gets aM_gotNow aM_bitsOf aM_sizeOf aM_number aM_passing vM_isKept vM_taped vM_leaked vM_keptAll vM_offAll u12.1 u12.2.1 u8.2.2.1 u8.2.2.2.1 u8.2.2.2.2.1 u8.2.2.2.2.2.1 u12.2.2 vM_triedOff vM_triedLeaked vM_triedKept vM_fitting vM_firstSet vM_inAll vM_inAny vM_at vM_sort vM_from vM_value vM_fault cM_path cM_comesUp cM_comesDown cM_d) rfl rfl rfl rfl rfl (by decide +kernel) rfl rfl (Nat.le_of_ble_eq_true rfl) ⟨Nat.zero_le _, Nat.zero_le _⟩ dX8_wayTo_119 (fun H locs hP hD hS => ?_)
                  refine lv_aload_n hx hb dX8_wayTo_122 rfl (lv_at hl 3 rfl) ?_
                  refine va_get (D := D) (ci := 7) (v := .ref aM_comesUp) (C := RX8) (T := TX8) (N := 43) hx hb hts in_X8 hown hK hP 0 rfl rfl 15 (by decide) q3 (fun _ h9 => h9) rfl dX8_wayTo_123 ?_
                  refine lv_iload hx hb dX8_wayTo_126 (lv_at hl 1 rfl) ?_
                  refine lv_aload_n hx hb dX8_wayTo_128 rfl (lv_at hl 3 rfl) ?_
                  refine va_get (D := D) (ci := 7) (v := .long u12.1) (C := RX8) (T := TX8) (N := 43) hx hb hts in_X8 hown hK hP 0 rfl rfl 17 (by decide) q7 (fun _ h9 => h9) rfl dX8_wayTo_129 ?_
                  obtain ⟨g13, h⟩ := gd_some h
                  refine va_last hx hb hK hP hD hS 2 1 rfl rfl g13 dX8_wayTo_132 (fun H locs hP hD hS => ?_)
                  have hP : va_P D vwCl (w_X8_wayTo cyI cyJ cyZ cyB cyO aM aM_path aM_comesUp aM_comesDown aM_d aM_e aM_f aM_kept aM_found aM_tape aM_came aM_got aM_held aM_off aM_gets aM_gotNow aM_bitsOf aM_sizeOf aM_number aM_passing vM_isKept vM_taped vM_leaked vM_keptAll vM_offAll u12.1 u12.2.1 u8.2.2.1 u8.2.2.2.1 u8.2.2.2.2.1 u8.2.2.2.2.2.1 u12.2.2 vM_triedOff vM_triedLeaked vM_triedKept vM_fitting vM_firstSet vM_inAll vM_inAny vM_at vM_sort vM_from vM_value vM_fault cM_path (vp_updL cM_comesUp z5.toNatClampNeg u12.1) cM_comesDown cM_d) H := hP
                  have hD : va_D A (w_X8_wayTo cyI cyJ cyZ cyB cyO aM aM_path aM_comesUp aM_comesDown aM_d aM_e aM_f aM_kept aM_found aM_tape aM_came aM_got aM_held aM_off aM_gets aM_gotNow aM_bitsOf aM_sizeOf aM_number aM_passing vM_isKept vM_taped vM_leaked vM_keptAll vM_offAll u12.1 u12.2.1 u8.2.2.1 u8.2.2.2.1 u8.2.2.2.2.1 u8.2.2.2.2.2.1 u12.2.2 vM_triedOff vM_triedLeaked vM_triedKept vM_fitting vM_firstSet vM_inAll vM_inAny vM_at vM_sort vM_from vM_value vM_fault cM_path (vp_updL cM_comesUp z5.toNatClampNeg u12.1) cM_comesDown cM_d) := hD
                  refine lv_aload_n hx hb dX8_wayTo_133 rfl (lv_at hl 3 rfl) ?_
                  refine va_get (D := D) (ci := 7) (v := .ref aM_comesDown) (C := RX8) (T := TX8) (N := 43) hx hb hts in_X8 hown hK hP 0 rfl rfl 16 (by decide) q4 (fun _ h9 => h9) rfl dX8_wayTo_134 ?_
                  refine lv_iload hx hb dX8_wayTo_137 (lv_at hl 1 rfl) ?_
                  refine lv_aload_n hx hb dX8_wayTo_139 rfl (lv_at hl 3 rfl) ?_
                  refine va_get (D := D) (ci := 7) (v := .long u12.2.1) (C := RX8) (T := TX8) (N := 43) hx hb hts in_X8 hown hK hP 0 rfl rfl 18 (by decide) q8 (fun _ h9 => h9) rfl dX8_wayTo_140 ?_
                  obtain ⟨g14, h⟩ := gd_some h
                  refine va_last hx hb hK hP hD hS 3 1 rfl rfl g14 dX8_wayTo_143 (fun H locs hP hD hS => ?_)
                  have hP : va_P D vwCl (w_X8_wayTo cyI cyJ cyZ cyB cyO aM aM_path aM_comesUp aM_comesDown aM_d aM_e aM_f aM_kept aM_found aM_tape aM_came aM_got aM_held aM_off aM_gets aM_gotNow aM_bitsOf aM_sizeOf aM_number aM_passing vM_isKept vM_taped vM_leaked vM_keptAll vM_offAll u12.1 u12.2.1 u8.2.2.1 u8.2.2.2.1 u8.2.2.2.2.1 u8.2.2.2.2.2.1 u12.2.2 vM_triedOff vM_triedLeaked vM_triedKept vM_fitting vM_firstSet vM_inAll vM_inAny vM_at vM_sort vM_from vM_value vM_fault cM_path (vp_updL cM_comesUp z5.toNatClampNeg u12.1) (vp_updL cM_comesDown z5.toNatClampNeg u12.2.1) cM_d) H := hP
                  have hD : va_D A (w_X8_wayTo cyI cyJ cyZ cyB cyO aM aM_path aM_comesUp aM_comesDown aM_d aM_e aM_f aM_kept aM_found aM_tape aM_came aM_got aM_held aM_off aM_gets aM_gotNow aM_bitsOf aM_sizeOf aM_number aM_passing vM_isKept vM_taped vM_leaked vM_keptAll vM_offAll u12.1 u12.2.1 u8.2.2.1 u8.2.2.2.1 u8.2.2.2.2.1 u8.2.2.2.2.2.1 u12.2.2 vM_triedOff vM_triedLeaked vM_triedKept vM_fitting vM_firstSet vM_inAll vM_inAny vM_at vM_sort vM_from vM_value vM_fault cM_path (vp_updL cM_comesUp z5.toNatClampNeg u12.1) (vp_updL cM_comesDown z5.toNatClampNeg u12.2.1) cM_d) := hD
                  refine lv_iinc (v := y3 + (-1)) (lv' := [(3, .int (y3 + (-1))), (5, .int z7), (4, .int z5), (0, .ref aM)]) hx hb dX8_wayTo_144 hl (k := 2) rfl rfl (by decide) rfl (fun ls hl => ?_)
                  refine lv_goto (tgt := 51) hx hb dX8_wayTo_147 (by decide) ?_
                  exact ih51 (y3 + (-1)) u12.1 u12.2.1 u8.2.2.1 u8.2.2.2.1 u8.2.2.2.2.1 u8.2.2.2.2.2.1 u12.2.2 cM_path (vp_updL cM_comesUp z5.toNatClampNeg u12.1) (vp_updL cM_comesDown z5.toNatClampNeg u12.2.1) _ _ _ hP hD hS (lv_sub hl [0, 3] rfl) h
                · have h := br_neg c9 h
                  obtain rfl := Option.some.inj h
                  exact hret _ _ _ _ hP hD hS dX8_wayTo_94 
        exact lp51 FU z1 vM_up vM_down vM_sharesUp vM_sharesDown vM_onUp vM_onDown vM_great cM_path (vp_updL cM_comesUp (0 : Int32).toNatClampNeg (1 : Int64)) (vp_updL cM_comesDown (0 : Int32).toNatClampNeg (1 : Int64)) _ _ _ hP hD hS (lv_sub hl [0, 2] rfl) h
      refine lv_if_lt (tgt := 33) hx hb dX8_wayTo_10 (by decide) (fun c15 => ?_) (fun c15 => ?_)
      · have h := br_pos c15 h
        exact j33 y2 vM_up vM_down vM_sharesUp vM_sharesDown vM_onUp vM_onDown vM_great cM_path cM_comesUp cM_comesDown _ _ _ hP hD hS (lv_sub hl [0, 2] rfl) h
      · have h := br_neg c15 h
        refine lv_aload_n hx hb dX8_wayTo_13 rfl (lv_at hl 2 rfl) ?_
        refine va_get (D := D) (ci := 7) (v := .ref aM_path) (C := RX8) (T := TX8) (N := 43) hx hb hts in_X8 hown hK hP 0 rfl rfl 24 (by decide) q2 (fun _ h9 => h9) rfl dX8_wayTo_14 ?_
        refine lv_iload_n hx hb dX8_wayTo_17 rfl (lv_at hl 0 rfl) ?_
        refine lv_iload_n hx hb dX8_wayTo_18 rfl (lv_at hl 1 rfl) ?_
        obtain ⟨g16, h⟩ := gd_some h
        refine va_iast hx hb hK hP hD hS 1 0 rfl rfl g16 dX8_wayTo_19 (fun H locs hP hD hS => ?_)
        have hP : va_P D vwCl (w_X8_wayTo cyI cyJ cyZ cyB cyO aM aM_path aM_comesUp aM_comesDown aM_d aM_e aM_f aM_kept aM_found aM_tape aM_came aM_got aM_held aM_off aM_gets aM_gotNow aM_bitsOf aM_sizeOf aM_number aM_passing vM_isKept vM_taped vM_leaked vM_keptAll vM_offAll vM_up vM_down vM_sharesUp vM_sharesDown vM_onUp vM_onDown vM_great vM_triedOff vM_triedLeaked vM_triedKept vM_fitting vM_firstSet vM_inAll vM_inAny vM_at vM_sort vM_from vM_value vM_fault (upd cM_path y2.toNatClampNeg y3) cM_comesUp cM_comesDown cM_d) H := hP
        have hD : va_D A (w_X8_wayTo cyI cyJ cyZ cyB cyO aM aM_path aM_comesUp aM_comesDown aM_d aM_e aM_f aM_kept aM_found aM_tape aM_came aM_got aM_held aM_off aM_gets aM_gotNow aM_bitsOf aM_sizeOf aM_number aM_passing vM_isKept vM_taped vM_leaked vM_keptAll vM_offAll vM_up vM_down vM_sharesUp vM_sharesDown vM_onUp vM_onDown vM_great vM_triedOff vM_triedLeaked vM_triedKept vM_fitting vM_firstSet vM_inAll vM_inAny vM_at vM_sort vM_from vM_value vM_fault (upd cM_path y2.toNatClampNeg y3) cM_comesUp cM_comesDown cM_d) := hD
        refine lv_iinc (v := y2 + 1) (lv' := [(2, .int (y2 + 1)), (3, .int y3), (0, .ref aM)]) hx hb dX8_wayTo_20 hl (k := 0) rfl rfl (by decide) rfl (fun ls hl => ?_)
        refine lv_aload_n hx hb dX8_wayTo_23 rfl (lv_at hl 2 rfl) ?_
        refine lv_iload_n hx hb dX8_wayTo_24 rfl (lv_at hl 1 rfl) ?_
        refine lv_iconst (v := 1) hx hb dX8_wayTo_25 (by decide) ?_
        obtain ⟨u17, hu17, h⟩ := bd_some h
        refine cl_Vi (rest := []) F hK hP hD hS hA hl (t_X8_its l D cyI cyJ cyZ cyB cyO aM aM_d aM_e aM_f aM_kept aM_found aM_tape aM_came aM_got aM_held aM_off aM_comesUp aM_comesDown aM_path aM_gets aM_gotNow aM_bitsOf aM_sizeOf aM_number aM_passing vM_isKept vM_taped vM_leaked vM_keptAll vM_offAll vM_up vM_down vM_sharesUp vM_sharesDown vM_onUp vM_onDown vM_great vM_triedOff vM_triedLeaked vM_triedKept vM_fitting vM_firstSet vM_inAll vM_inAny vM_at vM_sort vM_from vM_value vM_fault cM_d y3 (1 : Int32) u17 hu17) (cwV 2 hts gX8_wayTo_X8_its rfl rfl rfl (by decide +kernel) ⟨Nat.le_of_ble_eq_true rfl, Nat.le_of_ble_eq_true rfl⟩) 0 [0, 4] [1, 0, 0, 0, 2] [] (w_X8_wayTo cyI cyJ cyZ cyB cyO aM aM_path aM_comesUp aM_comesDown aM_d aM_e aM_f aM_kept aM_found aM_tape aM_came aM_got aM_held aM_off aM_gets aM_gotNow aM_bitsOf aM_sizeOf aM_number aM_passing vM_isKept vM_taped vM_leaked vM_keptAll vM_offAll vM_up vM_down vM_sharesUp vM_sharesDown vM_onUp vM_onDown vM_great vM_triedOff vM_triedLeaked vM_triedKept vM_fitting vM_firstSet vM_inAll vM_inAny vM_at vM_sort vM_from vM_value vM_fault (upd cM_path y2.toNatClampNeg y3) cM_comesUp cM_comesDown cM_d) rfl rfl rfl rfl rfl (by decide +kernel) rfl rfl (Nat.le_of_ble_eq_true rfl) ⟨Nat.zero_le _, Nat.zero_le _⟩ dX8_wayTo_26 (fun H locs hP hD hS => ?_)
        refine lv_istore_n (lv' := [(3, .int u17), (2, .int (y2 + 1)), (0, .ref aM)]) hx hb dX8_wayTo_29 rfl hl (by decide) rfl (fun ls hl => ?_)
        refine lv_goto (tgt := 9) hx hb dX8_wayTo_30 (by decide) ?_
        exact ih9 (y2 + 1) u17 vM_up vM_down vM_sharesUp vM_sharesDown vM_onUp vM_onDown vM_great (upd cM_path y2.toNatClampNeg y3) cM_comesUp cM_comesDown _ _ _ hP hD hS (lv_sub hl [1, 0, 2] rfl) h
  exact lp9 FU (0 : Int32) x1 vM_up vM_down vM_sharesUp vM_sharesDown vM_onUp vM_onDown (0 : Int32) cM_path cM_comesUp cM_comesDown _ _ _ hP hD hS (lv_sub hl [1, 0, 2] rfl) h
/-! ===== X8_isShare ===== -/
def w_X8_isShare (cyI cyJ cyZ cyB cyO : ClassId) (aM aM_path aM_comesUp aM_comesDown aM_d aM_e aM_f aM_kept aM_found aM_tape aM_came aM_got aM_held aM_off aM_gets aM_gotNow aM_bitsOf aM_sizeOf aM_number aM_passing : Nat) (vM_isKept : Int32) (vM_taped : Int32) (vM_leaked : Int32) (vM_keptAll : Int32) (vM_offAll : Int32) (vM_up : Int64) (vM_down : Int64) (vM_sharesUp : Int64) (vM_sharesDown : Int64) (vM_onUp : Int64) (vM_onDown : Int64) (vM_great : Int32) (vM_triedOff : Int32) (vM_triedLeaked : Int32) (vM_triedKept : Int32) (vM_fitting : Int32) (vM_firstSet : Int32) (vM_inAll : Int32) (vM_inAny : Int32) (vM_at : Int32) (vM_sort : Int32) (vM_from : Int32) (vM_value : Int64) (vM_fault : Int32) (cM_path : Nat → Int32) (cM_comesUp : Nat → Int64) (cM_comesDown : Nat → Int64) (cM_d : Nat → Int32) : va_W := [(aM, .inr (7, [.ref aM_d, .ref aM_e, .ref aM_f, .ref aM_kept, .int vM_isKept, .ref aM_found, .ref aM_tape, .int vM_taped, .ref aM_came, .ref aM_got, .ref aM_held, .ref aM_off, .int vM_leaked, .int vM_keptAll, .int vM_offAll, .ref aM_comesUp, .ref aM_comesDown, .long vM_up, .long vM_down, .long vM_sharesUp, .long vM_sharesDown, .long vM_onUp, .long vM_onDown, .int vM_great, .ref aM_path, .ref aM_gets, .int vM_triedOff, .int vM_triedLeaked, .int vM_triedKept, .ref aM_gotNow, .int vM_fitting, .int vM_firstSet, .int vM_inAll, .int vM_inAny, .int vM_at, .int vM_sort, .int vM_from, .long vM_value, .int vM_fault, .ref aM_bitsOf, .ref aM_sizeOf, .ref aM_number, .ref aM_passing])), (aM_path, .inl (cyI, 10, .inl cM_path)), (aM_comesUp, .inl (cyJ, 10, .inr (.inl cM_comesUp))), (aM_comesDown, .inl (cyJ, 10, .inr (.inl cM_comesDown))), (aM_d, .inl (cyI, 64, .inl cM_d))]
set_option maxHeartbeats 4000000 in
set_option maxRecDepth 100000 in
theorem t_X8_isShare (l : Launch) (D : va_G) (cyI cyJ cyZ cyB cyO : ClassId) (aM aM_path aM_comesUp aM_comesDown aM_d aM_e aM_f aM_kept aM_found aM_tape aM_came aM_got aM_held aM_off aM_gets aM_gotNow aM_bitsOf aM_sizeOf aM_number aM_passing : Nat) (vM_isKept : Int32) (vM_taped : Int32) (vM_leaked : Int32) (vM_keptAll : Int32) (vM_offAll : Int32) (vM_up : Int64) (vM_down : Int64) (vM_sharesUp : Int64) (vM_sharesDown : Int64) (vM_onUp : Int64) (vM_onDown : Int64) (vM_great : Int32) (vM_triedOff : Int32) (vM_triedLeaked : Int32) (vM_triedKept : Int32) (vM_fitting : Int32) (vM_firstSet : Int32) (vM_inAll : Int32) (vM_inAny : Int32) (vM_at : Int32) (vM_sort : Int32) (vM_from : Int32) (vM_value : Int64) (vM_fault : Int32) (cM_path : Nat → Int32) (cM_comesUp : Nat → Int64) (cM_comesDown : Nat → Int64) (cM_d : Nat → Int32) (x1 : Int32) (out : Int32 × Int64 × Int64 × Int64 × Int64 × Int64 × Int64 × Int32 × (Nat → Int32) × (Nat → Int64) × (Nat → Int64)) (h : f_X8_isShare x1 vM_up vM_down vM_sharesUp vM_sharesDown vM_onUp vM_onDown vM_great cM_path cM_comesUp cM_comesDown cM_d = some out) : Mi l yX8_isShare wsX8_isShare ({ frames := 4, cells := 0, slots := 0, locals := 115 } : Room) D (tyA cyI cyJ cyZ cyB cyO) [.ref aM, .int x1] (w_X8_isShare cyI cyJ cyZ cyB cyO aM aM_path aM_comesUp aM_comesDown aM_d aM_e aM_f aM_kept aM_found aM_tape aM_came aM_got aM_held aM_off aM_gets aM_gotNow aM_bitsOf aM_sizeOf aM_number aM_passing vM_isKept vM_taped vM_leaked vM_keptAll vM_offAll vM_up vM_down vM_sharesUp vM_sharesDown vM_onUp vM_onDown vM_great vM_triedOff vM_triedLeaked vM_triedKept vM_fitting vM_firstSet vM_inAll vM_inAny vM_at vM_sort vM_from vM_value vM_fault cM_path cM_comesUp cM_comesDown cM_d) (w_X8_isShare cyI cyJ cyZ cyB cyO aM aM_path aM_comesUp aM_comesDown aM_d aM_e aM_f aM_kept aM_found aM_tape aM_came aM_got aM_held aM_off aM_gets aM_gotNow aM_bitsOf aM_sizeOf aM_number aM_passing vM_isKept vM_taped vM_leaked vM_keptAll vM_offAll out.2.1 out.2.2.1 out.2.2.2.1 out.2.2.2.2.1 out.2.2.2.2.2.1 out.2.2.2.2.2.2.1 out.2.2.2.2.2.2.2.1 vM_triedOff vM_triedLeaked vM_triedKept vM_fitting vM_firstSet vM_inAll vM_inAny vM_at vM_sort vM_from vM_value vM_fault out.2.2.2.2.2.2.2.2.1 out.2.2.2.2.2.2.2.2.2.1 out.2.2.2.2.2.2.2.2.2.2 cM_d) out.1 := by
  refine Mi.mk (cc := cX8_isShare) (maxL := 2) (rt := .boolean) (own := RX8) (by decide) rfl rfl (Nat.le_of_ble_eq_true rfl) ?_
  intro p e s m args below meth c A Q F hK hP hD hA hret ls hl
  obtain ⟨hx, hb, hml, hown, hts⟩ := id F
  have hS : va_S A s.heap s.heap [] := va_S.rf
  have hl : lv_has ls 2 [(0, .ref aM), (1, .int x1)] := hl
  have in_X8 : ∀ w ∈ wsX80, w ∈ wsX8_isShare := by decide +kernel
  have q2 := hts (Cond.methodLink RX8 176 yX8_wayTo) (List.mem_of_getElem? (i := 2) rfl)
  have q1 := hts (Cond.fieldLink RX8 140 "ThirdFountainModel" "great" "Z") (List.mem_of_getElem? (i := 1) rfl)
  have q19 := hts (Cond.methodLink RX8 172 yX8_shareOf) (List.mem_of_getElem? (i := 19) rfl)
  unfold f_X8_isShare at h
  refine lv_aload_n hx hb dX8_isShare_0 rfl (lv_at hl 0 rfl) ?_
  refine lv_iload_n hx hb dX8_isShare_1 rfl (lv_at hl 1 rfl) ?_
  obtain ⟨u1, hu1, h⟩ := bd_some h
  refine cl_Vv (rest := []) F hK hP hD hS hA hl (t_X8_wayTo l D cyI cyJ cyZ cyB cyO aM aM_path aM_comesUp aM_comesDown aM_d aM_e aM_f aM_kept aM_found aM_tape aM_came aM_got aM_held aM_off aM_gets aM_gotNow aM_bitsOf aM_sizeOf aM_number aM_passing vM_isKept vM_taped vM_leaked vM_keptAll vM_offAll vM_up vM_down vM_sharesUp vM_sharesDown vM_onUp vM_onDown vM_great vM_triedOff vM_triedLeaked vM_triedKept vM_fitting vM_firstSet vM_inAll vM_inAny vM_at vM_sort vM_from vM_value vM_fault cM_path cM_comesUp cM_comesDown cM_d x1 u1 hu1) (cwV 1 hts gX8_isShare_X8_wayTo rfl rfl rfl (by decide +kernel) ⟨Nat.le_of_ble_eq_true rfl, Nat.le_of_ble_eq_true rfl⟩) 0 [0, 1, 2, 3, 4] [1, 2, 3, 4, 5] [] (w_X8_isShare cyI cyJ cyZ cyB cyO aM aM_path aM_comesUp aM_comesDown aM_d aM_e aM_f aM_kept aM_found aM_tape aM_came aM_got aM_held aM_off aM_gets aM_gotNow aM_bitsOf aM_sizeOf aM_number aM_passing vM_isKept vM_taped vM_leaked vM_keptAll vM_offAll u1.1 u1.2.1 u1.2.2.1 u1.2.2.2.1 u1.2.2.2.2.1 u1.2.2.2.2.2.1 u1.2.2.2.2.2.2.1 vM_triedOff vM_triedLeaked vM_triedKept vM_fitting vM_firstSet vM_inAll vM_inAny vM_at vM_sort vM_from vM_value vM_fault u1.2.2.2.2.2.2.2.1 u1.2.2.2.2.2.2.2.2.1 u1.2.2.2.2.2.2.2.2.2 cM_d) rfl rfl rfl rfl rfl (by decide +kernel) rfl rfl (Nat.le_of_ble_eq_true rfl) ⟨Nat.zero_le _, Nat.zero_le _⟩ dX8_isShare_2 (fun H locs hP hD hS => ?_)
  refine lv_aload_n hx hb dX8_isShare_5 rfl (lv_at hl 0 rfl) ?_
  refine va_get (D := D) (ci := 7) (v := .int u1.2.2.2.2.2.2.1) (C := RX8) (T := TX8) (N := 43) hx hb hts in_X8 hown hK hP 0 rfl rfl 23 (by decide) q1 (fun _ h9 => h9) rfl dX8_isShare_6 ?_
  refine lv_if_ne (tgt := 18) hx hb dX8_isShare_9 (by decide) (fun c2 => ?_) (fun c2 => ?_)
  · have h := br_neg c2 h
    refine lv_aload_n hx hb dX8_isShare_18 rfl (lv_at hl 0 rfl) ?_
    refine va_get (D := D) (ci := 7) (v := .int u1.2.2.2.2.2.2.1) (C := RX8) (T := TX8) (N := 43) hx hb hts in_X8 hown hK hP 0 rfl rfl 23 (by decide) q1 (fun _ h9 => h9) rfl dX8_isShare_19 ?_
    refine lv_if_ne (tgt := 29) hx hb dX8_isShare_22 (by decide) (fun c3 => ?_) (fun c3 => ?_)
    · have h := br_neg c3 h
      refine lv_iconst (v := 0) hx hb dX8_isShare_29 (by decide) ?_
      obtain rfl := Option.some.inj h
      exact hret _ _ _ _ _ hP hD hS dX8_isShare_30 (nz_of (Or.inl rfl)) rfl
    · have h := br_pos c3 h
      refine lv_iconst (v := 1) hx hb dX8_isShare_25 (by decide) ?_
      refine lv_goto (tgt := 30) hx hb dX8_isShare_26 (by decide) ?_
      obtain rfl := Option.some.inj h
      exact hret _ _ _ _ _ hP hD hS dX8_isShare_30 (nz_of (Or.inr rfl)) rfl
  · have h := br_pos c2 h
    refine lv_aload_n hx hb dX8_isShare_12 rfl (lv_at hl 0 rfl) ?_
    refine lv_iload_n hx hb dX8_isShare_13 rfl (lv_at hl 1 rfl) ?_
    refine lv_iconst (v := 0) hx hb dX8_isShare_14 (by decide) ?_
    obtain ⟨u4, hu4, h⟩ := bd_some h
    refine cl_Vv (rest := []) F hK hP hD hS hA hl (t_X8_shareOf l D cyI cyJ cyZ cyB cyO aM aM_d aM_comesUp aM_comesDown aM_e aM_f aM_kept aM_found aM_tape aM_came aM_got aM_held aM_off aM_path aM_gets aM_gotNow aM_bitsOf aM_sizeOf aM_number aM_passing vM_isKept vM_taped vM_leaked vM_keptAll vM_offAll u1.1 u1.2.1 u1.2.2.1 u1.2.2.2.1 u1.2.2.2.2.1 u1.2.2.2.2.2.1 u1.2.2.2.2.2.2.1 vM_triedOff vM_triedLeaked vM_triedKept vM_fitting vM_firstSet vM_inAll vM_inAny vM_at vM_sort vM_from vM_value vM_fault cM_d u1.2.2.2.2.2.2.2.2.1 u1.2.2.2.2.2.2.2.2.2 x1 (0 : Int32) u4 hu4) (cwV 2 hts gX8_isShare_X8_shareOf rfl rfl rfl (by decide +kernel) ⟨Nat.le_of_ble_eq_true rfl, Nat.le_of_ble_eq_true rfl⟩) 0 [0, 4, 2, 3] [1, 0, 3, 4, 2] [] (w_X8_isShare cyI cyJ cyZ cyB cyO aM aM_path aM_comesUp aM_comesDown aM_d aM_e aM_f aM_kept aM_found aM_tape aM_came aM_got aM_held aM_off aM_gets aM_gotNow aM_bitsOf aM_sizeOf aM_number aM_passing vM_isKept vM_taped vM_leaked vM_keptAll vM_offAll u4.1 u4.2.1 u4.2.2.1 u4.2.2.2.1 u4.2.2.2.2.1 u4.2.2.2.2.2.1 u4.2.2.2.2.2.2 vM_triedOff vM_triedLeaked vM_triedKept vM_fitting vM_firstSet vM_inAll vM_inAny vM_at vM_sort vM_from vM_value vM_fault u1.2.2.2.2.2.2.2.1 u1.2.2.2.2.2.2.2.2.1 u1.2.2.2.2.2.2.2.2.2 cM_d) rfl rfl rfl rfl rfl (by decide +kernel) rfl rfl (Nat.le_of_ble_eq_true rfl) ⟨Nat.zero_le _, Nat.zero_le _⟩ dX8_isShare_15 (fun H locs hP hD hS => ?_)
    refine lv_aload_n hx hb dX8_isShare_18 rfl (lv_at hl 0 rfl) ?_
    refine va_get (D := D) (ci := 7) (v := .int u4.2.2.2.2.2.2) (C := RX8) (T := TX8) (N := 43) hx hb hts in_X8 hown hK hP 0 rfl rfl 23 (by decide) q1 (fun _ h9 => h9) rfl dX8_isShare_19 ?_
    refine lv_if_ne (tgt := 29) hx hb dX8_isShare_22 (by decide) (fun c5 => ?_) (fun c5 => ?_)
    · have h := br_neg c5 h
      refine lv_iconst (v := 0) hx hb dX8_isShare_29 (by decide) ?_
      obtain rfl := Option.some.inj h
      exact hret _ _ _ _ _ hP hD hS dX8_isShare_30 (nz_of (Or.inl rfl)) rfl
    · have h := br_pos c5 h
      refine lv_iconst (v := 1) hx hb dX8_isShare_25 (by decide) ?_
      refine lv_goto (tgt := 30) hx hb dX8_isShare_26 (by decide) ?_
      obtain rfl := Option.some.inj h
      exact hret _ _ _ _ _ hP hD hS dX8_isShare_30 (nz_of (Or.inr rfl)) rfl
/-! ===== X8_share ===== -/
def w_X8_share (cyI cyJ cyZ cyB cyO : ClassId) (aM aM_d aM_found aM_path aM_comesUp aM_comesDown aM_e aM_f aM_kept aM_tape aM_came aM_got aM_held aM_off aM_gets aM_gotNow aM_bitsOf aM_sizeOf aM_number aM_passing : Nat) (vM_isKept : Int32) (vM_taped : Int32) (vM_leaked : Int32) (vM_keptAll : Int32) (vM_offAll : Int32) (vM_up : Int64) (vM_down : Int64) (vM_sharesUp : Int64) (vM_sharesDown : Int64) (vM_onUp : Int64) (vM_onDown : Int64) (vM_great : Int32) (vM_triedOff : Int32) (vM_triedLeaked : Int32) (vM_triedKept : Int32) (vM_fitting : Int32) (vM_firstSet : Int32) (vM_inAll : Int32) (vM_inAny : Int32) (vM_at : Int32) (vM_sort : Int32) (vM_from : Int32) (vM_value : Int64) (vM_fault : Int32) (cM_d : Nat → Int32) (cM_found : Nat → Int32) (cM_path : Nat → Int32) (cM_comesUp : Nat → Int64) (cM_comesDown : Nat → Int64) : va_W := [(aM, .inr (7, [.ref aM_d, .ref aM_e, .ref aM_f, .ref aM_kept, .int vM_isKept, .ref aM_found, .ref aM_tape, .int vM_taped, .ref aM_came, .ref aM_got, .ref aM_held, .ref aM_off, .int vM_leaked, .int vM_keptAll, .int vM_offAll, .ref aM_comesUp, .ref aM_comesDown, .long vM_up, .long vM_down, .long vM_sharesUp, .long vM_sharesDown, .long vM_onUp, .long vM_onDown, .int vM_great, .ref aM_path, .ref aM_gets, .int vM_triedOff, .int vM_triedLeaked, .int vM_triedKept, .ref aM_gotNow, .int vM_fitting, .int vM_firstSet, .int vM_inAll, .int vM_inAny, .int vM_at, .int vM_sort, .int vM_from, .long vM_value, .int vM_fault, .ref aM_bitsOf, .ref aM_sizeOf, .ref aM_number, .ref aM_passing])), (aM_d, .inl (cyI, 64, .inl cM_d)), (aM_found, .inl (cyI, 7, .inl cM_found)), (aM_path, .inl (cyI, 10, .inl cM_path)), (aM_comesUp, .inl (cyJ, 10, .inr (.inl cM_comesUp))), (aM_comesDown, .inl (cyJ, 10, .inr (.inl cM_comesDown)))]
set_option maxHeartbeats 4000000 in
set_option maxRecDepth 100000 in
theorem t_X8_share (l : Launch) (D : va_G) (cyI cyJ cyZ cyB cyO : ClassId) (aM aM_d aM_found aM_path aM_comesUp aM_comesDown aM_e aM_f aM_kept aM_tape aM_came aM_got aM_held aM_off aM_gets aM_gotNow aM_bitsOf aM_sizeOf aM_number aM_passing : Nat) (vM_isKept : Int32) (vM_taped : Int32) (vM_leaked : Int32) (vM_keptAll : Int32) (vM_offAll : Int32) (vM_up : Int64) (vM_down : Int64) (vM_sharesUp : Int64) (vM_sharesDown : Int64) (vM_onUp : Int64) (vM_onDown : Int64) (vM_great : Int32) (vM_triedOff : Int32) (vM_triedLeaked : Int32) (vM_triedKept : Int32) (vM_fitting : Int32) (vM_firstSet : Int32) (vM_inAll : Int32) (vM_inAny : Int32) (vM_at : Int32) (vM_sort : Int32) (vM_from : Int32) (vM_value : Int64) (vM_fault : Int32) (cM_d : Nat → Int32) (cM_found : Nat → Int32) (cM_path : Nat → Int32) (cM_comesUp : Nat → Int64) (cM_comesDown : Nat → Int64) (x1 : Int32) (x2 : Int32) (out : Int64 × Int64 × Int64 × Int64 × Int64 × Int64 × Int64 × Int32 × (Nat → Int32) × (Nat → Int32) × (Nat → Int64) × (Nat → Int64)) (h : f_X8_share x1 x2 vM_up vM_down vM_sharesUp vM_sharesDown vM_onUp vM_onDown vM_great cM_d cM_found cM_path cM_comesUp cM_comesDown = some out) : Ml l yX8_share wsX8_share ({ frames := 5, cells := 0, slots := 0, locals := 136 } : Room) D (tyA cyI cyJ cyZ cyB cyO) [.ref aM, .int x1, .int x2] (w_X8_share cyI cyJ cyZ cyB cyO aM aM_d aM_found aM_path aM_comesUp aM_comesDown aM_e aM_f aM_kept aM_tape aM_came aM_got aM_held aM_off aM_gets aM_gotNow aM_bitsOf aM_sizeOf aM_number aM_passing vM_isKept vM_taped vM_leaked vM_keptAll vM_offAll vM_up vM_down vM_sharesUp vM_sharesDown vM_onUp vM_onDown vM_great vM_triedOff vM_triedLeaked vM_triedKept vM_fitting vM_firstSet vM_inAll vM_inAny vM_at vM_sort vM_from vM_value vM_fault cM_d cM_found cM_path cM_comesUp cM_comesDown) (w_X8_share cyI cyJ cyZ cyB cyO aM aM_d aM_found aM_path aM_comesUp aM_comesDown aM_e aM_f aM_kept aM_tape aM_came aM_got aM_held aM_off aM_gets aM_gotNow aM_bitsOf aM_sizeOf aM_number aM_passing vM_isKept vM_taped vM_leaked vM_keptAll vM_offAll out.2.1 out.2.2.1 out.2.2.2.1 out.2.2.2.2.1 out.2.2.2.2.2.1 out.2.2.2.2.2.2.1 out.2.2.2.2.2.2.2.1 vM_triedOff vM_triedLeaked vM_triedKept vM_fitting vM_firstSet vM_inAll vM_inAny vM_at vM_sort vM_from vM_value vM_fault cM_d out.2.2.2.2.2.2.2.2.1 out.2.2.2.2.2.2.2.2.2.1 out.2.2.2.2.2.2.2.2.2.2.1 out.2.2.2.2.2.2.2.2.2.2.2) out.1 := by
  refine Ml.mk (cc := cX8_share) (maxL := 3) (own := RX8) (by decide) rfl rfl (Nat.le_of_ble_eq_true rfl) ?_
  intro p e s m args below meth c A Q F hK hP hD hA hret ls hl
  obtain ⟨hx, hb, hml, hown, hts⟩ := id F
  have hS : va_S A s.heap s.heap [] := va_S.rf
  have hl : lv_has ls 3 [(0, .ref aM), (1, .int x1), (2, .int x2)] := hl
  have in_X8 : ∀ w ∈ wsX80, w ∈ wsX8_share := by decide +kernel
  have q3 := hts (Cond.methodLink RX8 109 yX8_isBasin) (List.mem_of_getElem? (i := 3) rfl)
  have q12 := hts (Cond.methodLink RX8 115 yX8_finds) (List.mem_of_getElem? (i := 12) rfl)
  have q9 := hts (Cond.methodLink RX8 70 yX8_in) (List.mem_of_getElem? (i := 9) rfl)
  have q18 := hts (Cond.methodLink RX8 180 yX8_isShare) (List.mem_of_getElem? (i := 18) rfl)
  have q2 := hts (Cond.fieldLink RX8 163 "ThirdFountainModel" "sharesDown" "J") (List.mem_of_getElem? (i := 2) rfl)
  have q1 := hts (Cond.fieldLink RX8 160 "ThirdFountainModel" "sharesUp" "J") (List.mem_of_getElem? (i := 1) rfl)
  unfold f_X8_share at h
  refine lv_aload_n hx hb dX8_share_0 rfl (lv_at hl 0 rfl) ?_
  refine lv_iload_n hx hb dX8_share_1 rfl (lv_at hl 1 rfl) ?_
  obtain ⟨u1, hu1, h⟩ := bd_some h
  refine cl_Vi (rest := []) F hK hP hD hS hA hl (t_X8_isBasin l D cyI cyJ cyZ cyB cyO aM aM_d aM_e aM_f aM_kept aM_found aM_tape aM_came aM_got aM_held aM_off aM_comesUp aM_comesDown aM_path aM_gets aM_gotNow aM_bitsOf aM_sizeOf aM_number aM_passing vM_isKept vM_taped vM_leaked vM_keptAll vM_offAll vM_up vM_down vM_sharesUp vM_sharesDown vM_onUp vM_onDown vM_great vM_triedOff vM_triedLeaked vM_triedKept vM_fitting vM_firstSet vM_inAll vM_inAny vM_at vM_sort vM_from vM_value vM_fault cM_d x1 u1 hu1) (cwV 1 hts gX8_share_X8_isBasin rfl rfl rfl (by decide +kernel) ⟨Nat.le_of_ble_eq_true rfl, Nat.le_of_ble_eq_true rfl⟩) 0 [0, 1] [1, 2, 0, 0, 0, 0] [] (w_X8_share cyI cyJ cyZ cyB cyO aM aM_d aM_found aM_path aM_comesUp aM_comesDown aM_e aM_f aM_kept aM_tape aM_came aM_got aM_held aM_off aM_gets aM_gotNow aM_bitsOf aM_sizeOf aM_number aM_passing vM_isKept vM_taped vM_leaked vM_keptAll vM_offAll vM_up vM_down vM_sharesUp vM_sharesDown vM_onUp vM_onDown vM_great vM_triedOff vM_triedLeaked vM_triedKept vM_fitting vM_firstSet vM_inAll vM_inAny vM_at vM_sort vM_from vM_value vM_fault cM_d cM_found cM_path cM_comesUp cM_comesDown) rfl rfl rfl rfl rfl (by decide +kernel) rfl rfl (Nat.le_of_ble_eq_true rfl) ⟨Nat.zero_le _, Nat.zero_le _⟩ dX8_share_2 (fun H locs hP hD hS => ?_)
  refine lv_if_eq (tgt := 18) hx hb dX8_share_5 (by decide) (fun c2 => ?_) (fun c2 => ?_)
  · have h := br_pos c2 h
    refine lv_aload_n hx hb dX8_share_18 rfl (lv_at hl 0 rfl) ?_
    refine lv_iconst (v := 0) hx hb dX8_share_19 (by decide) ?_
    obtain ⟨u3, hu3, h⟩ := bd_some h
    refine cl_Vi (rest := []) F hK hP hD hS hA hl (t_X8_finds l D cyI cyJ cyZ cyB cyO aM aM_found aM_d aM_e aM_f aM_kept aM_tape aM_came aM_got aM_held aM_off aM_comesUp aM_comesDown aM_path aM_gets aM_gotNow aM_bitsOf aM_sizeOf aM_number aM_passing vM_isKept vM_taped vM_leaked vM_keptAll vM_offAll vM_up vM_down vM_sharesUp vM_sharesDown vM_onUp vM_onDown vM_great vM_triedOff vM_triedLeaked vM_triedKept vM_fitting vM_firstSet vM_inAll vM_inAny vM_at vM_sort vM_from vM_value vM_fault cM_found (0 : Int32) u3 hu3) (cwV 1 hts gX8_share_X8_finds rfl rfl rfl (by decide +kernel) ⟨Nat.le_of_ble_eq_true rfl, Nat.le_of_ble_eq_true rfl⟩) 0 [0, 2] [1, 0, 2, 0, 0, 0] [] (w_X8_share cyI cyJ cyZ cyB cyO aM aM_d aM_found aM_path aM_comesUp aM_comesDown aM_e aM_f aM_kept aM_tape aM_came aM_got aM_held aM_off aM_gets aM_gotNow aM_bitsOf aM_sizeOf aM_number aM_passing vM_isKept vM_taped vM_leaked vM_keptAll vM_offAll vM_up vM_down vM_sharesUp vM_sharesDown vM_onUp vM_onDown vM_great vM_triedOff vM_triedLeaked vM_triedKept vM_fitting vM_firstSet vM_inAll vM_inAny vM_at vM_sort vM_from vM_value vM_fault cM_d u3.2 cM_path cM_comesUp cM_comesDown) rfl rfl rfl rfl rfl (by decide +kernel) rfl rfl (Nat.le_of_ble_eq_true rfl) ⟨Nat.zero_le _, Nat.zero_le _⟩ dX8_share_20 (fun H locs hP hD hS => ?_)
    refine lv_i2l hx hb dX8_share_23 rfl ?_
    obtain rfl := Option.some.inj h
    exact hret _ _ _ _ _ hP hD hS dX8_share_24 rfl
  · have h := br_neg c2 h
    refine lv_iload_n hx hb dX8_share_8 rfl (lv_at hl 2 rfl) ?_
    refine lv_i2l hx hb dX8_share_9 rfl ?_
    refine lv_lconst (v := 0) hx hb dX8_share_10 (by decide) ?_
    refine lv_lconst (v := 1) hx hb dX8_share_11 (by decide) ?_
    obtain ⟨u4, hu4, h⟩ := bd_some h
    refine cl_Si (rest := []) F hK hP hD hS hA hl (t_X8_in l D cyI cyJ cyZ cyB cyO x2.toInt64 (0 : Int64) (1 : Int64) u4 hu4) (va_cwS 3 hts gX8_share_X8_in rfl rfl rfl (by decide +kernel) ⟨Nat.le_of_ble_eq_true rfl, Nat.le_of_ble_eq_true rfl⟩) [] [0, 0, 0, 0, 0, 0] [] (w_X8_share cyI cyJ cyZ cyB cyO aM aM_d aM_found aM_path aM_comesUp aM_comesDown aM_e aM_f aM_kept aM_tape aM_came aM_got aM_held aM_off aM_gets aM_gotNow aM_bitsOf aM_sizeOf aM_number aM_passing vM_isKept vM_taped vM_leaked vM_keptAll vM_offAll vM_up vM_down vM_sharesUp vM_sharesDown vM_onUp vM_onDown vM_great vM_triedOff vM_triedLeaked vM_triedKept vM_fitting vM_firstSet vM_inAll vM_inAny vM_at vM_sort vM_from vM_value vM_fault cM_d cM_found cM_path cM_comesUp cM_comesDown) rfl rfl rfl (by decide +kernel) rfl rfl (Nat.le_of_ble_eq_true rfl) ⟨Nat.zero_le _, Nat.zero_le _⟩ dX8_share_12 (fun H locs hP hD hS => ?_)
    refine lv_if_ne (tgt := 25) hx hb dX8_share_15 (by decide) (fun c5 => ?_) (fun c5 => ?_)
    · have h := br_neg c5 h
      refine lv_aload_n hx hb dX8_share_25 rfl (lv_at hl 0 rfl) ?_
      refine lv_iload_n hx hb dX8_share_26 rfl (lv_at hl 1 rfl) ?_
      obtain ⟨u6, hu6, h⟩ := bd_some h
      refine cl_Vi (rest := []) F hK hP hD hS hA hl (t_X8_isShare l D cyI cyJ cyZ cyB cyO aM aM_path aM_comesUp aM_comesDown aM_d aM_e aM_f aM_kept aM_found aM_tape aM_came aM_got aM_held aM_off aM_gets aM_gotNow aM_bitsOf aM_sizeOf aM_number aM_passing vM_isKept vM_taped vM_leaked vM_keptAll vM_offAll vM_up vM_down vM_sharesUp vM_sharesDown vM_onUp vM_onDown vM_great vM_triedOff vM_triedLeaked vM_triedKept vM_fitting vM_firstSet vM_inAll vM_inAny vM_at vM_sort vM_from vM_value vM_fault cM_path cM_comesUp cM_comesDown cM_d x1 u6 hu6) (cwV 1 hts gX8_share_X8_isShare rfl rfl rfl (by decide +kernel) ⟨Nat.le_of_ble_eq_true rfl, Nat.le_of_ble_eq_true rfl⟩) 0 [0, 3, 4, 5, 1] [1, 5, 0, 2, 3, 4] [] (w_X8_share cyI cyJ cyZ cyB cyO aM aM_d aM_found aM_path aM_comesUp aM_comesDown aM_e aM_f aM_kept aM_tape aM_came aM_got aM_held aM_off aM_gets aM_gotNow aM_bitsOf aM_sizeOf aM_number aM_passing vM_isKept vM_taped vM_leaked vM_keptAll vM_offAll u6.2.1 u6.2.2.1 u6.2.2.2.1 u6.2.2.2.2.1 u6.2.2.2.2.2.1 u6.2.2.2.2.2.2.1 u6.2.2.2.2.2.2.2.1 vM_triedOff vM_triedLeaked vM_triedKept vM_fitting vM_firstSet vM_inAll vM_inAny vM_at vM_sort vM_from vM_value vM_fault cM_d cM_found u6.2.2.2.2.2.2.2.2.1 u6.2.2.2.2.2.2.2.2.2.1 u6.2.2.2.2.2.2.2.2.2.2) rfl rfl rfl rfl rfl (by decide +kernel) rfl rfl (Nat.le_of_ble_eq_true rfl) ⟨Nat.zero_le _, Nat.zero_le _⟩ dX8_share_27 (fun H locs hP hD hS => ?_)
      refine lv_if_ne (tgt := 41) hx hb dX8_share_30 (by decide) (fun c7 => ?_) (fun c7 => ?_)
      · have h := br_neg c7 h
        refine lv_iload_n hx hb dX8_share_41 rfl (lv_at hl 2 rfl) ?_
        refine lv_if_ne (tgt := 52) hx hb dX8_share_42 (by decide) (fun c8 => ?_) (fun c8 => ?_)
        · have h := br_neg c8 h
          refine lv_aload_n hx hb dX8_share_52 rfl (lv_at hl 0 rfl) ?_
          refine va_get (D := D) (ci := 7) (v := .long u6.2.2.2.2.1) (C := RX8) (T := TX8) (N := 43) hx hb hts in_X8 hown hK hP 0 rfl rfl 20 (by decide) q2 (fun _ h9 => h9) rfl dX8_share_53 ?_
          obtain rfl := Option.some.inj h
          exact hret _ _ _ _ _ hP hD hS dX8_share_56 rfl
        · have h := br_pos c8 h
          refine lv_aload_n hx hb dX8_share_45 rfl (lv_at hl 0 rfl) ?_
          refine va_get (D := D) (ci := 7) (v := .long u6.2.2.2.1) (C := RX8) (T := TX8) (N := 43) hx hb hts in_X8 hown hK hP 0 rfl rfl 19 (by decide) q1 (fun _ h9 => h9) rfl dX8_share_46 ?_
          refine lv_goto (tgt := 56) hx hb dX8_share_49 (by decide) ?_
          obtain rfl := Option.some.inj h
          exact hret _ _ _ _ _ hP hD hS dX8_share_56 rfl
      · have h := br_pos c7 h
        refine lv_aload_n hx hb dX8_share_33 rfl (lv_at hl 0 rfl) ?_
        refine lv_bipush (v := 6) hx hb dX8_share_34 (by decide) ?_
        obtain ⟨u9, hu9, h⟩ := bd_some h
        refine cl_Vi (rest := []) F hK hP hD hS hA hl (t_X8_finds l D cyI cyJ cyZ cyB cyO aM aM_found aM_d aM_e aM_f aM_kept aM_tape aM_came aM_got aM_held aM_off aM_comesUp aM_comesDown aM_path aM_gets aM_gotNow aM_bitsOf aM_sizeOf aM_number aM_passing vM_isKept vM_taped vM_leaked vM_keptAll vM_offAll u6.2.1 u6.2.2.1 u6.2.2.2.1 u6.2.2.2.2.1 u6.2.2.2.2.2.1 u6.2.2.2.2.2.2.1 u6.2.2.2.2.2.2.2.1 vM_triedOff vM_triedLeaked vM_triedKept vM_fitting vM_firstSet vM_inAll vM_inAny vM_at vM_sort vM_from vM_value vM_fault cM_found (6 : Int32) u9 hu9) (cwV 1 hts gX8_share_X8_finds rfl rfl rfl (by decide +kernel) ⟨Nat.le_of_ble_eq_true rfl, Nat.le_of_ble_eq_true rfl⟩) 0 [0, 2] [1, 0, 2, 0, 0, 0] [] (w_X8_share cyI cyJ cyZ cyB cyO aM aM_d aM_found aM_path aM_comesUp aM_comesDown aM_e aM_f aM_kept aM_tape aM_came aM_got aM_held aM_off aM_gets aM_gotNow aM_bitsOf aM_sizeOf aM_number aM_passing vM_isKept vM_taped vM_leaked vM_keptAll vM_offAll u6.2.1 u6.2.2.1 u6.2.2.2.1 u6.2.2.2.2.1 u6.2.2.2.2.2.1 u6.2.2.2.2.2.2.1 u6.2.2.2.2.2.2.2.1 vM_triedOff vM_triedLeaked vM_triedKept vM_fitting vM_firstSet vM_inAll vM_inAny vM_at vM_sort vM_from vM_value vM_fault cM_d u9.2 u6.2.2.2.2.2.2.2.2.1 u6.2.2.2.2.2.2.2.2.2.1 u6.2.2.2.2.2.2.2.2.2.2) rfl rfl rfl rfl rfl (by decide +kernel) rfl rfl (Nat.le_of_ble_eq_true rfl) ⟨Nat.zero_le _, Nat.zero_le _⟩ dX8_share_36 (fun H locs hP hD hS => ?_)
        refine lv_i2l hx hb dX8_share_39 rfl ?_
        obtain rfl := Option.some.inj h
        exact hret _ _ _ _ _ hP hD hS dX8_share_40 rfl
    · have h := br_pos c5 h
      refine lv_aload_n hx hb dX8_share_18 rfl (lv_at hl 0 rfl) ?_
      refine lv_iconst (v := 0) hx hb dX8_share_19 (by decide) ?_
      obtain ⟨u10, hu10, h⟩ := bd_some h
      refine cl_Vi (rest := []) F hK hP hD hS hA hl (t_X8_finds l D cyI cyJ cyZ cyB cyO aM aM_found aM_d aM_e aM_f aM_kept aM_tape aM_came aM_got aM_held aM_off aM_comesUp aM_comesDown aM_path aM_gets aM_gotNow aM_bitsOf aM_sizeOf aM_number aM_passing vM_isKept vM_taped vM_leaked vM_keptAll vM_offAll vM_up vM_down vM_sharesUp vM_sharesDown vM_onUp vM_onDown vM_great vM_triedOff vM_triedLeaked vM_triedKept vM_fitting vM_firstSet vM_inAll vM_inAny vM_at vM_sort vM_from vM_value vM_fault cM_found (0 : Int32) u10 hu10) (cwV 1 hts gX8_share_X8_finds rfl rfl rfl (by decide +kernel) ⟨Nat.le_of_ble_eq_true rfl, Nat.le_of_ble_eq_true rfl⟩) 0 [0, 2] [1, 0, 2, 0, 0, 0] [] (w_X8_share cyI cyJ cyZ cyB cyO aM aM_d aM_found aM_path aM_comesUp aM_comesDown aM_e aM_f aM_kept aM_tape aM_came aM_got aM_held aM_off aM_gets aM_gotNow aM_bitsOf aM_sizeOf aM_number aM_passing vM_isKept vM_taped vM_leaked vM_keptAll vM_offAll vM_up vM_down vM_sharesUp vM_sharesDown vM_onUp vM_onDown vM_great vM_triedOff vM_triedLeaked vM_triedKept vM_fitting vM_firstSet vM_inAll vM_inAny vM_at vM_sort vM_from vM_value vM_fault cM_d u10.2 cM_path cM_comesUp cM_comesDown) rfl rfl rfl rfl rfl (by decide +kernel) rfl rfl (Nat.le_of_ble_eq_true rfl) ⟨Nat.zero_le _, Nat.zero_le _⟩ dX8_share_20 (fun H locs hP hD hS => ?_)
      refine lv_i2l hx hb dX8_share_23 rfl ?_
      obtain rfl := Option.some.inj h
      exact hret _ _ _ _ _ hP hD hS dX8_share_24 rfl
/-! ===== X8_rest ===== -/
def w_X8_rest (cyI cyJ cyZ cyB cyO : ClassId) (aM aM_d aM_found aM_path aM_comesUp aM_comesDown aM_e aM_f aM_kept aM_tape aM_came aM_got aM_held aM_off aM_gets aM_gotNow aM_bitsOf aM_sizeOf aM_number aM_passing : Nat) (vM_isKept : Int32) (vM_taped : Int32) (vM_leaked : Int32) (vM_keptAll : Int32) (vM_offAll : Int32) (vM_up : Int64) (vM_down : Int64) (vM_sharesUp : Int64) (vM_sharesDown : Int64) (vM_onUp : Int64) (vM_onDown : Int64) (vM_great : Int32) (vM_triedOff : Int32) (vM_triedLeaked : Int32) (vM_triedKept : Int32) (vM_fitting : Int32) (vM_firstSet : Int32) (vM_inAll : Int32) (vM_inAny : Int32) (vM_at : Int32) (vM_sort : Int32) (vM_from : Int32) (vM_value : Int64) (vM_fault : Int32) (cM_d : Nat → Int32) (cM_found : Nat → Int32) (cM_path : Nat → Int32) (cM_comesUp : Nat → Int64) (cM_comesDown : Nat → Int64) : va_W := [(aM, .inr (7, [.ref aM_d, .ref aM_e, .ref aM_f, .ref aM_kept, .int vM_isKept, .ref aM_found, .ref aM_tape, .int vM_taped, .ref aM_came, .ref aM_got, .ref aM_held, .ref aM_off, .int vM_leaked, .int vM_keptAll, .int vM_offAll, .ref aM_comesUp, .ref aM_comesDown, .long vM_up, .long vM_down, .long vM_sharesUp, .long vM_sharesDown, .long vM_onUp, .long vM_onDown, .int vM_great, .ref aM_path, .ref aM_gets, .int vM_triedOff, .int vM_triedLeaked, .int vM_triedKept, .ref aM_gotNow, .int vM_fitting, .int vM_firstSet, .int vM_inAll, .int vM_inAny, .int vM_at, .int vM_sort, .int vM_from, .long vM_value, .int vM_fault, .ref aM_bitsOf, .ref aM_sizeOf, .ref aM_number, .ref aM_passing])), (aM_d, .inl (cyI, 64, .inl cM_d)), (aM_found, .inl (cyI, 7, .inl cM_found)), (aM_path, .inl (cyI, 10, .inl cM_path)), (aM_comesUp, .inl (cyJ, 10, .inr (.inl cM_comesUp))), (aM_comesDown, .inl (cyJ, 10, .inr (.inl cM_comesDown)))]
set_option maxHeartbeats 4000000 in
set_option maxRecDepth 100000 in
theorem t_X8_rest (l : Launch) (D : va_G) (cyI cyJ cyZ cyB cyO : ClassId) (aM aM_d aM_found aM_path aM_comesUp aM_comesDown aM_e aM_f aM_kept aM_tape aM_came aM_got aM_held aM_off aM_gets aM_gotNow aM_bitsOf aM_sizeOf aM_number aM_passing : Nat) (vM_isKept : Int32) (vM_taped : Int32) (vM_leaked : Int32) (vM_keptAll : Int32) (vM_offAll : Int32) (vM_up : Int64) (vM_down : Int64) (vM_sharesUp : Int64) (vM_sharesDown : Int64) (vM_onUp : Int64) (vM_onDown : Int64) (vM_great : Int32) (vM_triedOff : Int32) (vM_triedLeaked : Int32) (vM_triedKept : Int32) (vM_fitting : Int32) (vM_firstSet : Int32) (vM_inAll : Int32) (vM_inAny : Int32) (vM_at : Int32) (vM_sort : Int32) (vM_from : Int32) (vM_value : Int64) (vM_fault : Int32) (cM_d : Nat → Int32) (cM_found : Nat → Int32) (cM_path : Nat → Int32) (cM_comesUp : Nat → Int64) (cM_comesDown : Nat → Int64) (x1 : Int32) (x2 : Int32) (out : Int64 × Int64 × Int64 × Int64 × Int64 × Int64 × Int64 × Int32 × (Nat → Int32) × (Nat → Int32) × (Nat → Int64) × (Nat → Int64)) (h : f_X8_rest x1 x2 vM_up vM_down vM_sharesUp vM_sharesDown vM_onUp vM_onDown vM_great cM_d cM_found cM_path cM_comesUp cM_comesDown = some out) : Ml l yX8_rest wsX8_rest ({ frames := 4, cells := 0, slots := 0, locals := 115 } : Room) D (tyA cyI cyJ cyZ cyB cyO) [.ref aM, .int x1, .int x2] (w_X8_rest cyI cyJ cyZ cyB cyO aM aM_d aM_found aM_path aM_comesUp aM_comesDown aM_e aM_f aM_kept aM_tape aM_came aM_got aM_held aM_off aM_gets aM_gotNow aM_bitsOf aM_sizeOf aM_number aM_passing vM_isKept vM_taped vM_leaked vM_keptAll vM_offAll vM_up vM_down vM_sharesUp vM_sharesDown vM_onUp vM_onDown vM_great vM_triedOff vM_triedLeaked vM_triedKept vM_fitting vM_firstSet vM_inAll vM_inAny vM_at vM_sort vM_from vM_value vM_fault cM_d cM_found cM_path cM_comesUp cM_comesDown) (w_X8_rest cyI cyJ cyZ cyB cyO aM aM_d aM_found aM_path aM_comesUp aM_comesDown aM_e aM_f aM_kept aM_tape aM_came aM_got aM_held aM_off aM_gets aM_gotNow aM_bitsOf aM_sizeOf aM_number aM_passing vM_isKept vM_taped vM_leaked vM_keptAll vM_offAll out.2.1 out.2.2.1 out.2.2.2.1 out.2.2.2.2.1 out.2.2.2.2.2.1 out.2.2.2.2.2.2.1 out.2.2.2.2.2.2.2.1 vM_triedOff vM_triedLeaked vM_triedKept vM_fitting vM_firstSet vM_inAll vM_inAny vM_at vM_sort vM_from vM_value vM_fault cM_d out.2.2.2.2.2.2.2.2.1 out.2.2.2.2.2.2.2.2.2.1 out.2.2.2.2.2.2.2.2.2.2.1 out.2.2.2.2.2.2.2.2.2.2.2) out.1 := by
  refine Ml.mk (cc := cX8_rest) (maxL := 3) (own := RX8) (by decide) rfl rfl (Nat.le_of_ble_eq_true rfl) ?_
  intro p e s m args below meth c A Q F hK hP hD hA hret ls hl
  obtain ⟨hx, hb, hml, hown, hts⟩ := id F
  have hS : va_S A s.heap s.heap [] := va_S.rf
  have hl : lv_has ls 3 [(0, .ref aM), (1, .int x1), (2, .int x2)] := hl
  have in_X8 : ∀ w ∈ wsX80, w ∈ wsX8_rest := by decide +kernel
  have q4 := hts (Cond.methodLink RX8 109 yX8_isBasin) (List.mem_of_getElem? (i := 4) rfl)
  have q13 := hts (Cond.methodLink RX8 115 yX8_finds) (List.mem_of_getElem? (i := 13) rfl)
  have q10 := hts (Cond.methodLink RX8 70 yX8_in) (List.mem_of_getElem? (i := 10) rfl)
  have q19 := hts (Cond.methodLink RX8 98 yX8_edgesBelow) (List.mem_of_getElem? (i := 19) rfl)
  have q27 := hts (Cond.methodLink RX8 176 yX8_wayTo) (List.mem_of_getElem? (i := 27) rfl)
  have q1 := hts (Cond.fieldLink RX8 140 "ThirdFountainModel" "great" "Z") (List.mem_of_getElem? (i := 1) rfl)
  have q3 := hts (Cond.fieldLink RX8 169 "ThirdFountainModel" "onDown" "J") (List.mem_of_getElem? (i := 3) rfl)
  have q2 := hts (Cond.fieldLink RX8 166 "ThirdFountainModel" "onUp" "J") (List.mem_of_getElem? (i := 2) rfl)
  have q36 := hts (Cond.methodLink RX8 172 yX8_shareOf) (List.mem_of_getElem? (i := 36) rfl)
  unfold f_X8_rest at h
  refine lv_aload_n hx hb dX8_rest_0 rfl (lv_at hl 0 rfl) ?_
  refine lv_iload_n hx hb dX8_rest_1 rfl (lv_at hl 1 rfl) ?_
  obtain ⟨u1, hu1, h⟩ := bd_some h
  refine cl_Vi (rest := []) F hK hP hD hS hA hl (t_X8_isBasin l D cyI cyJ cyZ cyB cyO aM aM_d aM_e aM_f aM_kept aM_found aM_tape aM_came aM_got aM_held aM_off aM_comesUp aM_comesDown aM_path aM_gets aM_gotNow aM_bitsOf aM_sizeOf aM_number aM_passing vM_isKept vM_taped vM_leaked vM_keptAll vM_offAll vM_up vM_down vM_sharesUp vM_sharesDown vM_onUp vM_onDown vM_great vM_triedOff vM_triedLeaked vM_triedKept vM_fitting vM_firstSet vM_inAll vM_inAny vM_at vM_sort vM_from vM_value vM_fault cM_d x1 u1 hu1) (cwV 1 hts gX8_rest_X8_isBasin rfl rfl rfl (by decide +kernel) ⟨Nat.le_of_ble_eq_true rfl, Nat.le_of_ble_eq_true rfl⟩) 0 [0, 1] [1, 2, 0, 0, 0, 0] [] (w_X8_rest cyI cyJ cyZ cyB cyO aM aM_d aM_found aM_path aM_comesUp aM_comesDown aM_e aM_f aM_kept aM_tape aM_came aM_got aM_held aM_off aM_gets aM_gotNow aM_bitsOf aM_sizeOf aM_number aM_passing vM_isKept vM_taped vM_leaked vM_keptAll vM_offAll vM_up vM_down vM_sharesUp vM_sharesDown vM_onUp vM_onDown vM_great vM_triedOff vM_triedLeaked vM_triedKept vM_fitting vM_firstSet vM_inAll vM_inAny vM_at vM_sort vM_from vM_value vM_fault cM_d cM_found cM_path cM_comesUp cM_comesDown) rfl rfl rfl rfl rfl (by decide +kernel) rfl rfl (Nat.le_of_ble_eq_true rfl) ⟨Nat.zero_le _, Nat.zero_le _⟩ dX8_rest_2 (fun H locs hP hD hS => ?_)
  refine lv_if_eq (tgt := 18) hx hb dX8_rest_5 (by decide) (fun c2 => ?_) (fun c2 => ?_)
  · have h := br_pos c2 h
    refine lv_aload_n hx hb dX8_rest_18 rfl (lv_at hl 0 rfl) ?_
    refine lv_iconst (v := 0) hx hb dX8_rest_19 (by decide) ?_
    obtain ⟨u3, hu3, h⟩ := bd_some h
    refine cl_Vi (rest := []) F hK hP hD hS hA hl (t_X8_finds l D cyI cyJ cyZ cyB cyO aM aM_found aM_d aM_e aM_f aM_kept aM_tape aM_came aM_got aM_held aM_off aM_comesUp aM_comesDown aM_path aM_gets aM_gotNow aM_bitsOf aM_sizeOf aM_number aM_passing vM_isKept vM_taped vM_leaked vM_keptAll vM_offAll vM_up vM_down vM_sharesUp vM_sharesDown vM_onUp vM_onDown vM_great vM_triedOff vM_triedLeaked vM_triedKept vM_fitting vM_firstSet vM_inAll vM_inAny vM_at vM_sort vM_from vM_value vM_fault cM_found (0 : Int32) u3 hu3) (cwV 1 hts gX8_rest_X8_finds rfl rfl rfl (by decide +kernel) ⟨Nat.le_of_ble_eq_true rfl, Nat.le_of_ble_eq_true rfl⟩) 0 [0, 2] [1, 0, 2, 0, 0, 0] [] (w_X8_rest cyI cyJ cyZ cyB cyO aM aM_d aM_found aM_path aM_comesUp aM_comesDown aM_e aM_f aM_kept aM_tape aM_came aM_got aM_held aM_off aM_gets aM_gotNow aM_bitsOf aM_sizeOf aM_number aM_passing vM_isKept vM_taped vM_leaked vM_keptAll vM_offAll vM_up vM_down vM_sharesUp vM_sharesDown vM_onUp vM_onDown vM_great vM_triedOff vM_triedLeaked vM_triedKept vM_fitting vM_firstSet vM_inAll vM_inAny vM_at vM_sort vM_from vM_value vM_fault cM_d u3.2 cM_path cM_comesUp cM_comesDown) rfl rfl rfl rfl rfl (by decide +kernel) rfl rfl (Nat.le_of_ble_eq_true rfl) ⟨Nat.zero_le _, Nat.zero_le _⟩ dX8_rest_20 (fun H locs hP hD hS => ?_)
    refine lv_i2l hx hb dX8_rest_23 rfl ?_
    obtain rfl := Option.some.inj h
    exact hret _ _ _ _ _ hP hD hS dX8_rest_24 rfl
  · have h := br_neg c2 h
    refine lv_iload_n hx hb dX8_rest_8 rfl (lv_at hl 2 rfl) ?_
    refine lv_i2l hx hb dX8_rest_9 rfl ?_
    refine lv_lconst (v := 0) hx hb dX8_rest_10 (by decide) ?_
    refine lv_lconst (v := 1) hx hb dX8_rest_11 (by decide) ?_
    obtain ⟨u4, hu4, h⟩ := bd_some h
    refine cl_Si (rest := []) F hK hP hD hS hA hl (t_X8_in l D cyI cyJ cyZ cyB cyO x2.toInt64 (0 : Int64) (1 : Int64) u4 hu4) (va_cwS 3 hts gX8_rest_X8_in rfl rfl rfl (by decide +kernel) ⟨Nat.le_of_ble_eq_true rfl, Nat.le_of_ble_eq_true rfl⟩) [] [0, 0, 0, 0, 0, 0] [] (w_X8_rest cyI cyJ cyZ cyB cyO aM aM_d aM_found aM_path aM_comesUp aM_comesDown aM_e aM_f aM_kept aM_tape aM_came aM_got aM_held aM_off aM_gets aM_gotNow aM_bitsOf aM_sizeOf aM_number aM_passing vM_isKept vM_taped vM_leaked vM_keptAll vM_offAll vM_up vM_down vM_sharesUp vM_sharesDown vM_onUp vM_onDown vM_great vM_triedOff vM_triedLeaked vM_triedKept vM_fitting vM_firstSet vM_inAll vM_inAny vM_at vM_sort vM_from vM_value vM_fault cM_d cM_found cM_path cM_comesUp cM_comesDown) rfl rfl rfl (by decide +kernel) rfl rfl (Nat.le_of_ble_eq_true rfl) ⟨Nat.zero_le _, Nat.zero_le _⟩ dX8_rest_12 (fun H locs hP hD hS => ?_)
    refine lv_if_ne (tgt := 25) hx hb dX8_rest_15 (by decide) (fun c5 => ?_) (fun c5 => ?_)
    · have h := br_neg c5 h
      refine lv_aload_n hx hb dX8_rest_25 rfl (lv_at hl 0 rfl) ?_
      refine lv_iload_n hx hb dX8_rest_26 rfl (lv_at hl 1 rfl) ?_
      obtain ⟨u6, hu6, h⟩ := bd_some h
      refine cl_Vi (rest := []) F hK hP hD hS hA hl (t_X8_edgesBelow l D cyI cyJ cyZ cyB cyO aM aM_d aM_e aM_f aM_kept aM_found aM_tape aM_came aM_got aM_held aM_off aM_comesUp aM_comesDown aM_path aM_gets aM_gotNow aM_bitsOf aM_sizeOf aM_number aM_passing vM_isKept vM_taped vM_leaked vM_keptAll vM_offAll vM_up vM_down vM_sharesUp vM_sharesDown vM_onUp vM_onDown vM_great vM_triedOff vM_triedLeaked vM_triedKept vM_fitting vM_firstSet vM_inAll vM_inAny vM_at vM_sort vM_from vM_value vM_fault cM_d x1 u6 hu6) (cwV 1 hts gX8_rest_X8_edgesBelow rfl rfl rfl (by decide +kernel) ⟨Nat.le_of_ble_eq_true rfl, Nat.le_of_ble_eq_true rfl⟩) 0 [0, 1] [1, 2, 0, 0, 0, 0] [] (w_X8_rest cyI cyJ cyZ cyB cyO aM aM_d aM_found aM_path aM_comesUp aM_comesDown aM_e aM_f aM_kept aM_tape aM_came aM_got aM_held aM_off aM_gets aM_gotNow aM_bitsOf aM_sizeOf aM_number aM_passing vM_isKept vM_taped vM_leaked vM_keptAll vM_offAll vM_up vM_down vM_sharesUp vM_sharesDown vM_onUp vM_onDown vM_great vM_triedOff vM_triedLeaked vM_triedKept vM_fitting vM_firstSet vM_inAll vM_inAny vM_at vM_sort vM_from vM_value vM_fault cM_d cM_found cM_path cM_comesUp cM_comesDown) rfl rfl rfl rfl rfl (by decide +kernel) rfl rfl (Nat.le_of_ble_eq_true rfl) ⟨Nat.zero_le _, Nat.zero_le _⟩ dX8_rest_27 (fun H locs hP hD hS => ?_)
      refine lv_if_le (tgt := 36) hx hb dX8_rest_30 (by decide) (fun c7 => ?_) (fun c7 => ?_)
      · have h := br_pos c7 h
        refine lv_aload_n hx hb dX8_rest_36 rfl (lv_at hl 0 rfl) ?_
        refine lv_iload_n hx hb dX8_rest_37 rfl (lv_at hl 1 rfl) ?_
        obtain ⟨u8, hu8, h⟩ := bd_some h
        refine cl_Vv (rest := []) F hK hP hD hS hA hl (t_X8_wayTo l D cyI cyJ cyZ cyB cyO aM aM_path aM_comesUp aM_comesDown aM_d aM_e aM_f aM_kept aM_found aM_tape aM_came aM_got aM_held aM_off aM_gets aM_gotNow aM_bitsOf aM_sizeOf aM_number aM_passing vM_isKept vM_taped vM_leaked vM_keptAll vM_offAll vM_up vM_down vM_sharesUp vM_sharesDown vM_onUp vM_onDown vM_great vM_triedOff vM_triedLeaked vM_triedKept vM_fitting vM_firstSet vM_inAll vM_inAny vM_at vM_sort vM_from vM_value vM_fault cM_path cM_comesUp cM_comesDown cM_d x1 u8 hu8) (cwV 1 hts gX8_rest_X8_wayTo rfl rfl rfl (by decide +kernel) ⟨Nat.le_of_ble_eq_true rfl, Nat.le_of_ble_eq_true rfl⟩) 0 [0, 3, 4, 5, 1] [1, 5, 0, 2, 3, 4] [] (w_X8_rest cyI cyJ cyZ cyB cyO aM aM_d aM_found aM_path aM_comesUp aM_comesDown aM_e aM_f aM_kept aM_tape aM_came aM_got aM_held aM_off aM_gets aM_gotNow aM_bitsOf aM_sizeOf aM_number aM_passing vM_isKept vM_taped vM_leaked vM_keptAll vM_offAll u8.1 u8.2.1 u8.2.2.1 u8.2.2.2.1 u8.2.2.2.2.1 u8.2.2.2.2.2.1 u8.2.2.2.2.2.2.1 vM_triedOff vM_triedLeaked vM_triedKept vM_fitting vM_firstSet vM_inAll vM_inAny vM_at vM_sort vM_from vM_value vM_fault cM_d cM_found u8.2.2.2.2.2.2.2.1 u8.2.2.2.2.2.2.2.2.1 u8.2.2.2.2.2.2.2.2.2) rfl rfl rfl rfl rfl (by decide +kernel) rfl rfl (Nat.le_of_ble_eq_true rfl) ⟨Nat.zero_le _, Nat.zero_le _⟩ dX8_rest_38 (fun H locs hP hD hS => ?_)
        refine lv_aload_n hx hb dX8_rest_41 rfl (lv_at hl 0 rfl) ?_
        refine va_get (D := D) (ci := 7) (v := .int u8.2.2.2.2.2.2.1) (C := RX8) (T := TX8) (N := 43) hx hb hts in_X8 hown hK hP 0 rfl rfl 23 (by decide) q1 (fun _ h9 => h9) rfl dX8_rest_42 ?_
        have j54 : ∀ (vM_up : Int64) (vM_down : Int64) (vM_sharesUp : Int64) (vM_sharesDown : Int64) (vM_onUp : Int64) (vM_onDown : Int64) (vM_great : Int32) (cM_found : Nat → Int32) (cM_path : Nat → Int32) (cM_comesUp : Nat → Int64) (cM_comesDown : Nat → Int64) (H : Heap) (locs : List Loc) (ls : Array Slot), va_P D vwCl (w_X8_rest cyI cyJ cyZ cyB cyO aM aM_d aM_found aM_path aM_comesUp aM_comesDown aM_e aM_f aM_kept aM_tape aM_came aM_got aM_held aM_off aM_gets aM_gotNow aM_bitsOf aM_sizeOf aM_number aM_passing vM_isKept vM_taped vM_leaked vM_keptAll vM_offAll vM_up vM_down vM_sharesUp vM_sharesDown vM_onUp vM_onDown vM_great vM_triedOff vM_triedLeaked vM_triedKept vM_fitting vM_firstSet vM_inAll vM_inAny vM_at vM_sort vM_from vM_value vM_fault cM_d cM_found cM_path cM_comesUp cM_comesDown) H → va_D A (w_X8_rest cyI cyJ cyZ cyB cyO aM aM_d aM_found aM_path aM_comesUp aM_comesDown aM_e aM_f aM_kept aM_tape aM_came aM_got aM_held aM_off aM_gets aM_gotNow aM_bitsOf aM_sizeOf aM_number aM_passing vM_isKept vM_taped vM_leaked vM_keptAll vM_offAll vM_up vM_down vM_sharesUp vM_sharesDown vM_onUp vM_onDown vM_great vM_triedOff vM_triedLeaked vM_triedKept vM_fitting vM_firstSet vM_inAll vM_inAny vM_at vM_sort vM_from vM_value vM_fault cM_d cM_found cM_path cM_comesUp cM_comesDown) → va_S A s.heap H locs → lv_has ls 3 [(0, .ref aM), (2, .int x2)] → f_X8_rest_J54 x1 x2 cM_d vM_up vM_down vM_sharesUp vM_sharesDown vM_onUp vM_onDown vM_great cM_found cM_path cM_comesUp cM_comesDown = some out → W p l e ({ frames := 4, cells := 0, slots := 0, locals := 115 } : Room) s m args below meth c H locs 0 0 Q (F0 m 54 ls []) := by
          intro vM_up vM_down vM_sharesUp vM_sharesDown vM_onUp vM_onDown vM_great cM_found cM_path cM_comesUp cM_comesDown H locs ls hP hD hS hl h
          unfold f_X8_rest_J54 at h
          refine lv_aload_n hx hb dX8_rest_54 rfl (lv_at hl 0 rfl) ?_
          refine va_get (D := D) (ci := 7) (v := .int vM_great) (C := RX8) (T := TX8) (N := 43) hx hb hts in_X8 hown hK hP 0 rfl rfl 23 (by decide) q1 (fun _ h9 => h9) rfl dX8_rest_55 ?_
          refine lv_if_eq (tgt := 69) hx hb dX8_rest_58 (by decide) (fun c9 => ?_) (fun c9 => ?_)
          · have h := br_pos c9 h
            refine lv_iload_n hx hb dX8_rest_69 rfl (lv_at hl 1 rfl) ?_
            refine lv_if_ne (tgt := 80) hx hb dX8_rest_70 (by decide) (fun c10 => ?_) (fun c10 => ?_)
            · have h := br_neg c10 h
              refine lv_aload_n hx hb dX8_rest_80 rfl (lv_at hl 0 rfl) ?_
              refine va_get (D := D) (ci := 7) (v := .long vM_onDown) (C := RX8) (T := TX8) (N := 43) hx hb hts in_X8 hown hK hP 0 rfl rfl 22 (by decide) q3 (fun _ h9 => h9) rfl dX8_rest_81 ?_
              obtain rfl := Option.some.inj h
              exact hret _ _ _ _ _ hP hD hS dX8_rest_84 rfl
            · have h := br_pos c10 h
              refine lv_aload_n hx hb dX8_rest_73 rfl (lv_at hl 0 rfl) ?_
              refine va_get (D := D) (ci := 7) (v := .long vM_onUp) (C := RX8) (T := TX8) (N := 43) hx hb hts in_X8 hown hK hP 0 rfl rfl 21 (by decide) q2 (fun _ h9 => h9) rfl dX8_rest_74 ?_
              refine lv_goto (tgt := 84) hx hb dX8_rest_77 (by decide) ?_
              obtain rfl := Option.some.inj h
              exact hret _ _ _ _ _ hP hD hS dX8_rest_84 rfl
          · have h := br_neg c9 h
            refine lv_aload_n hx hb dX8_rest_61 rfl (lv_at hl 0 rfl) ?_
            refine lv_bipush (v := 6) hx hb dX8_rest_62 (by decide) ?_
            obtain ⟨u11, hu11, h⟩ := bd_some h
            refine cl_Vi (rest := []) F hK hP hD hS hA hl (t_X8_finds l D cyI cyJ cyZ cyB cyO aM aM_found aM_d aM_e aM_f aM_kept aM_tape aM_came aM_got aM_held aM_off aM_comesUp aM_comesDown aM_path aM_gets aM_gotNow aM_bitsOf aM_sizeOf aM_number aM_passing vM_isKept vM_taped vM_leaked vM_keptAll vM_offAll vM_up vM_down vM_sharesUp vM_sharesDown vM_onUp vM_onDown vM_great vM_triedOff vM_triedLeaked vM_triedKept vM_fitting vM_firstSet vM_inAll vM_inAny vM_at vM_sort vM_from vM_value vM_fault cM_found (6 : Int32) u11 hu11) (cwV 1 hts gX8_rest_X8_finds rfl rfl rfl (by decide +kernel) ⟨Nat.le_of_ble_eq_true rfl, Nat.le_of_ble_eq_true rfl⟩) 0 [0, 2] [1, 0, 2, 0, 0, 0] [] (w_X8_rest cyI cyJ cyZ cyB cyO aM aM_d aM_found aM_path aM_comesUp aM_comesDown aM_e aM_f aM_kept aM_tape aM_came aM_got aM_held aM_off aM_gets aM_gotNow aM_bitsOf aM_sizeOf aM_number aM_passing vM_isKept vM_taped vM_leaked vM_keptAll vM_offAll vM_up vM_down vM_sharesUp vM_sharesDown vM_onUp vM_onDown vM_great vM_triedOff vM_triedLeaked vM_triedKept vM_fitting vM_firstSet vM_inAll vM_inAny vM_at vM_sort vM_from vM_value vM_fault cM_d u11.2 cM_path cM_comesUp cM_comesDown) rfl rfl rfl rfl rfl (by decide +kernel) rfl rfl (Nat.le_of_ble_eq_true rfl) ⟨Nat.zero_le _, Nat.zero_le _⟩ dX8_rest_64 (fun H locs hP hD hS => ?_)
            refine lv_i2l hx hb dX8_rest_67 rfl ?_
            obtain rfl := Option.some.inj h
            exact hret _ _ _ _ _ hP hD hS dX8_rest_68 rfl
        refine lv_if_ne (tgt := 54) hx hb dX8_rest_45 (by decide) (fun c12 => ?_) (fun c12 => ?_)
        · have h := br_neg c12 h
          exact j54 u8.1 u8.2.1 u8.2.2.1 u8.2.2.2.1 u8.2.2.2.2.1 u8.2.2.2.2.2.1 u8.2.2.2.2.2.2.1 cM_found u8.2.2.2.2.2.2.2.1 u8.2.2.2.2.2.2.2.2.1 u8.2.2.2.2.2.2.2.2.2 _ _ _ hP hD hS (lv_sub hl [0, 2] rfl) h
        · have h := br_pos c12 h
          refine lv_aload_n hx hb dX8_rest_48 rfl (lv_at hl 0 rfl) ?_
          refine lv_iload_n hx hb dX8_rest_49 rfl (lv_at hl 1 rfl) ?_
          refine lv_iconst (v := 1) hx hb dX8_rest_50 (by decide) ?_
          obtain ⟨u13, hu13, h⟩ := bd_some h
          refine cl_Vv (rest := []) F hK hP hD hS hA hl (t_X8_shareOf l D cyI cyJ cyZ cyB cyO aM aM_d aM_comesUp aM_comesDown aM_e aM_f aM_kept aM_found aM_tape aM_came aM_got aM_held aM_off aM_path aM_gets aM_gotNow aM_bitsOf aM_sizeOf aM_number aM_passing vM_isKept vM_taped vM_leaked vM_keptAll vM_offAll u8.1 u8.2.1 u8.2.2.1 u8.2.2.2.1 u8.2.2.2.2.1 u8.2.2.2.2.2.1 u8.2.2.2.2.2.2.1 vM_triedOff vM_triedLeaked vM_triedKept vM_fitting vM_firstSet vM_inAll vM_inAny vM_at vM_sort vM_from vM_value vM_fault cM_d u8.2.2.2.2.2.2.2.2.1 u8.2.2.2.2.2.2.2.2.2 x1 (1 : Int32) u13 hu13) (cwV 2 hts gX8_rest_X8_shareOf rfl rfl rfl (by decide +kernel) ⟨Nat.le_of_ble_eq_true rfl, Nat.le_of_ble_eq_true rfl⟩) 0 [0, 1, 4, 5] [1, 2, 0, 0, 3, 4] [] (w_X8_rest cyI cyJ cyZ cyB cyO aM aM_d aM_found aM_path aM_comesUp aM_comesDown aM_e aM_f aM_kept aM_tape aM_came aM_got aM_held aM_off aM_gets aM_gotNow aM_bitsOf aM_sizeOf aM_number aM_passing vM_isKept vM_taped vM_leaked vM_keptAll vM_offAll u13.1 u13.2.1 u13.2.2.1 u13.2.2.2.1 u13.2.2.2.2.1 u13.2.2.2.2.2.1 u13.2.2.2.2.2.2 vM_triedOff vM_triedLeaked vM_triedKept vM_fitting vM_firstSet vM_inAll vM_inAny vM_at vM_sort vM_from vM_value vM_fault cM_d cM_found u8.2.2.2.2.2.2.2.1 u8.2.2.2.2.2.2.2.2.1 u8.2.2.2.2.2.2.2.2.2) rfl rfl rfl rfl rfl (by decide +kernel) rfl rfl (Nat.le_of_ble_eq_true rfl) ⟨Nat.zero_le _, Nat.zero_le _⟩ dX8_rest_51 (fun H locs hP hD hS => ?_)
          exact j54 u13.1 u13.2.1 u13.2.2.1 u13.2.2.2.1 u13.2.2.2.2.1 u13.2.2.2.2.2.1 u13.2.2.2.2.2.2 cM_found u8.2.2.2.2.2.2.2.1 u8.2.2.2.2.2.2.2.2.1 u8.2.2.2.2.2.2.2.2.2 _ _ _ hP hD hS (lv_sub hl [0, 2] rfl) h
      · have h := br_neg c7 h
        refine lv_iload_n hx hb dX8_rest_33 rfl (lv_at hl 2 rfl) ?_
        refine lv_i2l hx hb dX8_rest_34 rfl ?_
        obtain rfl := Option.some.inj h
        exact hret _ _ _ _ _ hP hD hS dX8_rest_35 rfl
    · have h := br_pos c5 h
      refine lv_aload_n hx hb dX8_rest_18 rfl (lv_at hl 0 rfl) ?_
      refine lv_iconst (v := 0) hx hb dX8_rest_19 (by decide) ?_
      obtain ⟨u14, hu14, h⟩ := bd_some h
      refine cl_Vi (rest := []) F hK hP hD hS hA hl (t_X8_finds l D cyI cyJ cyZ cyB cyO aM aM_found aM_d aM_e aM_f aM_kept aM_tape aM_came aM_got aM_held aM_off aM_comesUp aM_comesDown aM_path aM_gets aM_gotNow aM_bitsOf aM_sizeOf aM_number aM_passing vM_isKept vM_taped vM_leaked vM_keptAll vM_offAll vM_up vM_down vM_sharesUp vM_sharesDown vM_onUp vM_onDown vM_great vM_triedOff vM_triedLeaked vM_triedKept vM_fitting vM_firstSet vM_inAll vM_inAny vM_at vM_sort vM_from vM_value vM_fault cM_found (0 : Int32) u14 hu14) (cwV 1 hts gX8_rest_X8_finds rfl rfl rfl (by decide +kernel) ⟨Nat.le_of_ble_eq_true rfl, Nat.le_of_ble_eq_true rfl⟩) 0 [0, 2] [1, 0, 2, 0, 0, 0] [] (w_X8_rest cyI cyJ cyZ cyB cyO aM aM_d aM_found aM_path aM_comesUp aM_comesDown aM_e aM_f aM_kept aM_tape aM_came aM_got aM_held aM_off aM_gets aM_gotNow aM_bitsOf aM_sizeOf aM_number aM_passing vM_isKept vM_taped vM_leaked vM_keptAll vM_offAll vM_up vM_down vM_sharesUp vM_sharesDown vM_onUp vM_onDown vM_great vM_triedOff vM_triedLeaked vM_triedKept vM_fitting vM_firstSet vM_inAll vM_inAny vM_at vM_sort vM_from vM_value vM_fault cM_d u14.2 cM_path cM_comesUp cM_comesDown) rfl rfl rfl rfl rfl (by decide +kernel) rfl rfl (Nat.le_of_ble_eq_true rfl) ⟨Nat.zero_le _, Nat.zero_le _⟩ dX8_rest_20 (fun H locs hP hD hS => ?_)
      refine lv_i2l hx hb dX8_rest_23 rfl ?_
      obtain rfl := Option.some.inj h
      exact hret _ _ _ _ _ hP hD hS dX8_rest_24 rfl
/-! ===== X8_order ===== -/
def w_X8_order (cyI cyJ cyZ cyB cyO : ClassId) : va_W := []
set_option maxHeartbeats 4000000 in
set_option maxRecDepth 100000 in
theorem t_X8_order (l : Launch) (D : va_G) (cyI cyJ cyZ cyB cyO : ClassId) (x0 : Int64) (x2 : Int64) (x4 : Int64) (x6 : Int64) (out : Int32) (h : f_X8_order x0 x2 x4 x6 = some out) : Mi l yX8_order wsX8_order ({ frames := 0, cells := 0, slots := 0, locals := 0 } : Room) D (tyA cyI cyJ cyZ cyB cyO) [.long x0, .long x2, .long x4, .long x6] (w_X8_order cyI cyJ cyZ cyB cyO ) (w_X8_order cyI cyJ cyZ cyB cyO ) out := by
  refine Mi.mk (cc := cX8_order) (maxL := 23) (rt := .int) (own := RX8) (by decide) rfl rfl (Nat.le_of_ble_eq_true rfl) ?_
  intro p e s m args below meth c A Q F hK hP hD hA hret ls hl
  obtain ⟨hx, hb, hml, hown, hts⟩ := id F
  have hS : va_S A s.heap s.heap [] := va_S.rf
  have hl : lv_has ls 23 [(0, .long x0), (2, .long x2), (4, .long x4), (6, .long x6)] := hl
  unfold f_X8_order at h
  refine lv_lload_n hx hb dX8_order_0 rfl (lv_at hl 0 rfl) ?_
  refine lv_lstore (lv' := [(8, .long x0), (0, .long x0), (2, .long x2), (4, .long x4), (6, .long x6)]) hx hb dX8_order_1 hl (by decide) rfl (fun ls hl => ?_)
  refine lv_lload_n hx hb dX8_order_3 rfl (lv_at hl 2 rfl) ?_
  refine lv_lstore (lv' := [(10, .long x2), (8, .long x0), (0, .long x0), (2, .long x2), (4, .long x4), (6, .long x6)]) hx hb dX8_order_4 hl (by decide) rfl (fun ls hl => ?_)
  refine lv_lload hx hb dX8_order_6 (lv_at hl 4 rfl) ?_
  refine lv_lstore (lv' := [(12, .long x4), (10, .long x2), (8, .long x0), (0, .long x0), (2, .long x2), (4, .long x4), (6, .long x6)]) hx hb dX8_order_8 hl (by decide) rfl (fun ls hl => ?_)
  refine lv_lload hx hb dX8_order_10 (lv_at hl 6 rfl) ?_
  refine lv_lstore (lv' := [(14, .long x6), (12, .long x4), (10, .long x2), (8, .long x0), (0, .long x0), (2, .long x2), (4, .long x4), (6, .long x6)]) hx hb dX8_order_12 hl (by decide) rfl (fun ls hl => ?_)
  refine lv_iconst (v := 1) hx hb dX8_order_14 (by decide) ?_
  refine lv_istore (lv' := [(16, .int (1 : Int32)), (14, .long x6), (12, .long x4), (10, .long x2), (8, .long x0), (0, .long x0), (2, .long x2), (4, .long x4), (6, .long x6)]) hx hb dX8_order_15 hl (by decide) rfl (fun ls hl => ?_)
  have lp17 : ∀ (k17 : Nat) (y8 : Int64) (y10 : Int64) (y12 : Int64) (y14 : Int64) (y16 : Int32) (H : Heap) (locs : List Loc) (ls : Array Slot), va_P D vwCl (w_X8_order cyI cyJ cyZ cyB cyO ) H → va_D A (w_X8_order cyI cyJ cyZ cyB cyO ) → va_S A s.heap H locs → lv_has ls 23 [(8, .long y8), (10, .long y10), (12, .long y12), (14, .long y14), (16, .int y16)] → (f_X8_order_L17 x0 x2 x4 x6 k17) (y8, y10, y12, y14, y16) = some out → W p l e ({ frames := 0, cells := 0, slots := 0, locals := 0 } : Room) s m args below meth c H locs 0 0 Q (F0 m 17 ls []) := by
    intro k17
    induction k17 with
    | zero => intro y8 y10 y12 y14 y16 H locs ls hP hD hS hl h; cases h
    | succ k17 ih17 =>
      intro y8 y10 y12 y14 y16 H locs ls hP hD hS hl h
      have h : f_X8_order_L17_b x0 x2 x4 x6 (f_X8_order_L17 x0 x2 x4 x6 k17) y8 y10 y12 y14 y16 = some out := h
      unfold f_X8_order_L17_b at h
      refine lv_lload hx hb dX8_order_17 (lv_at hl 0 rfl) ?_
      refine lv_lload hx hb dX8_order_19 (lv_at hl 1 rfl) ?_
      obtain ⟨g1, h⟩ := gd_some h
      refine lv_ldiv hx hb dX8_order_21 g1 ?_
      refine lv_topl (fun z2 ez2 => ?_)
      have h := nm_at ez2 h
      refine lv_lstore (lv' := [(17, .long z2), (8, .long y8), (10, .long y10), (12, .long y12), (14, .long y14), (16, .int y16)]) hx hb dX8_order_22 hl (by decide) rfl (fun ls hl => ?_)
      refine lv_lload hx hb dX8_order_24 (lv_at hl 3 rfl) ?_
      refine lv_lload hx hb dX8_order_26 (lv_at hl 4 rfl) ?_
      obtain ⟨g3, h⟩ := gd_some h
      refine lv_ldiv hx hb dX8_order_28 g3 ?_
      refine lv_topl (fun z4 ez4 => ?_)
      have h := nm_at ez4 h
      refine lv_lstore (lv' := [(19, .long z4), (17, .long z2), (8, .long y8), (10, .long y10), (12, .long y12), (14, .long y14), (16, .int y16)]) hx hb dX8_order_29 hl (by decide) rfl (fun ls hl => ?_)
      refine lv_lload hx hb dX8_order_31 (lv_at hl 1 rfl) ?_
      refine lv_lload hx hb dX8_order_33 (lv_at hl 0 rfl) ?_
      refine W.lcmp hx hb dX8_order_35 ?_
      refine lv_if_eq (tgt := 56) hx hb dX8_order_36 (by decide) (fun c5 => ?_) (fun c5 => ?_)
      · have h := br_pos c5 h
        refine lv_lload hx hb dX8_order_56 (lv_at hl 2 rfl) ?_
        refine lv_lload hx hb dX8_order_58 (lv_at hl 1 rfl) ?_
        refine lv_lload hx hb dX8_order_60 (lv_at hl 3 rfl) ?_
        refine lv_lmul hx hb dX8_order_62 ?_
        refine lv_lsub hx hb dX8_order_63 ?_
        refine lv_topl (fun z6 ez6 => ?_)
        have h := nm_at ez6 h
        refine lv_lstore (lv' := [(8, .long z6), (19, .long z4), (17, .long z2), (10, .long y10), (12, .long y12), (14, .long y14), (16, .int y16)]) hx hb dX8_order_64 hl (by decide) rfl (fun ls hl => ?_)
        refine lv_lload hx hb dX8_order_66 (lv_at hl 4 rfl) ?_
        refine lv_lload hx hb dX8_order_68 (lv_at hl 1 rfl) ?_
        refine lv_lload hx hb dX8_order_70 (lv_at hl 5 rfl) ?_
        refine lv_lmul hx hb dX8_order_72 ?_
        refine lv_lsub hx hb dX8_order_73 ?_
        refine lv_topl (fun z7 ez7 => ?_)
        have h := nm_at ez7 h
        refine lv_lstore (lv' := [(12, .long z7), (8, .long z6), (19, .long z4), (17, .long z2), (10, .long y10), (14, .long y14), (16, .int y16)]) hx hb dX8_order_74 hl (by decide) rfl (fun ls hl => ?_)
        refine lv_lload hx hb dX8_order_76 (lv_at hl 1 rfl) ?_
        refine lv_lconst (v := 0) hx hb dX8_order_78 (by decide) ?_
        refine W.lcmp hx hb dX8_order_79 ?_
        have j90 : ∀ (y8 : Int64) (y12 : Int64) (y16 : Int32) (H : Heap) (locs : List Loc) (ls : Array Slot), va_P D vwCl (w_X8_order cyI cyJ cyZ cyB cyO ) H → va_D A (w_X8_order cyI cyJ cyZ cyB cyO ) → va_S A s.heap H locs → lv_has ls 23 [(8, .long y8), (12, .long y12), (16, .int y16)] → f_X8_order_J90 x0 x2 x4 x6 y8 y12 y16 = some out → W p l e ({ frames := 0, cells := 0, slots := 0, locals := 0 } : Room) s m args below meth c H locs 0 0 Q (F0 m 90 ls []) := by
          intro y8 y12 y16 H locs ls hP hD hS hl h
          unfold f_X8_order_J90 at h
          refine lv_lload hx hb dX8_order_90 (lv_at hl 0 rfl) ?_
          refine lv_lconst (v := 0) hx hb dX8_order_92 (by decide) ?_
          refine W.lcmp hx hb dX8_order_93 ?_
          refine lv_if_ne (tgt := 108) hx hb dX8_order_94 (by decide) (fun c8 => ?_) (fun c8 => ?_)
          · have h := br_neg c8 h
            refine lv_lload hx hb dX8_order_108 (lv_at hl 0 rfl) ?_
            refine lv_lconst (v := 0) hx hb dX8_order_110 (by decide) ?_
            refine W.lcmp hx hb dX8_order_111 ?_
            refine lv_if_ne (tgt := 121) hx hb dX8_order_112 (by decide) (fun c9 => ?_) (fun c9 => ?_)
            · have h := br_neg c9 h
              refine lv_iload hx hb dX8_order_121 (lv_at hl 2 rfl) ?_
              obtain rfl := Option.some.inj h
              exact hret _ _ _ _ _ hP hD hS dX8_order_123 rfl rfl
            · have h := br_pos c9 h
              refine lv_iload hx hb dX8_order_115 (lv_at hl 2 rfl) ?_
              refine lv_ineg hx hb dX8_order_117 ?_
              refine lv_goto (tgt := 123) hx hb dX8_order_118 (by decide) ?_
              obtain rfl := Option.some.inj h
              exact hret _ _ _ _ _ hP hD hS dX8_order_123 rfl rfl
          · have h := br_pos c8 h
            refine lv_lload hx hb dX8_order_97 (lv_at hl 1 rfl) ?_
            refine lv_lconst (v := 0) hx hb dX8_order_99 (by decide) ?_
            refine W.lcmp hx hb dX8_order_100 ?_
            refine lv_if_ne (tgt := 108) hx hb dX8_order_101 (by decide) (fun c10 => ?_) (fun c10 => ?_)
            · have h := br_neg c10 h
              refine lv_lload hx hb dX8_order_108 (lv_at hl 0 rfl) ?_
              refine lv_lconst (v := 0) hx hb dX8_order_110 (by decide) ?_
              refine W.lcmp hx hb dX8_order_111 ?_
              refine lv_if_ne (tgt := 121) hx hb dX8_order_112 (by decide) (fun c11 => ?_) (fun c11 => ?_)
              · have h := br_neg c11 h
                refine lv_iload hx hb dX8_order_121 (lv_at hl 2 rfl) ?_
                obtain rfl := Option.some.inj h
                exact hret _ _ _ _ _ hP hD hS dX8_order_123 rfl rfl
              · have h := br_pos c11 h
                refine lv_iload hx hb dX8_order_115 (lv_at hl 2 rfl) ?_
                refine lv_ineg hx hb dX8_order_117 ?_
                refine lv_goto (tgt := 123) hx hb dX8_order_118 (by decide) ?_
                obtain rfl := Option.some.inj h
                exact hret _ _ _ _ _ hP hD hS dX8_order_123 rfl rfl
            · have h := br_pos c10 h
              refine lv_iconst (v := 0) hx hb dX8_order_104 (by decide) ?_
              refine lv_goto (tgt := 123) hx hb dX8_order_105 (by decide) ?_
              obtain rfl := Option.some.inj h
              exact hret _ _ _ _ _ hP hD hS dX8_order_123 rfl rfl
        refine lv_if_eq (tgt := 90) hx hb dX8_order_80 (by decide) (fun c12 => ?_) (fun c12 => ?_)
        · have h := br_pos c12 h
          exact j90 z6 z7 y16 _ _ _ hP hD hS (lv_sub hl [1, 0, 6] rfl) h
        · have h := br_neg c12 h
          refine lv_lload hx hb dX8_order_83 (lv_at hl 0 rfl) ?_
          refine lv_lconst (v := 0) hx hb dX8_order_85 (by decide) ?_
          refine W.lcmp hx hb dX8_order_86 ?_
          refine lv_if_ne (tgt := 124) hx hb dX8_order_87 (by decide) (fun c13 => ?_) (fun c13 => ?_)
          · have h := br_neg c13 h
            refine lv_lload hx hb dX8_order_124 (lv_at hl 1 rfl) ?_
            refine lv_lstore (lv' := [(21, .long z6), (12, .long z7), (8, .long z6), (19, .long z4), (17, .long z2), (10, .long y10), (14, .long y14), (16, .int y16)]) hx hb dX8_order_126 hl (by decide) rfl (fun ls hl => ?_)
            refine lv_lload hx hb dX8_order_128 (lv_at hl 5 rfl) ?_
            refine lv_lstore (lv' := [(8, .long y10), (21, .long z6), (12, .long z7), (19, .long z4), (17, .long z2), (10, .long y10), (14, .long y14), (16, .int y16)]) hx hb dX8_order_130 hl (by decide) rfl (fun ls hl => ?_)
            refine lv_lload hx hb dX8_order_132 (lv_at hl 1 rfl) ?_
            refine lv_lstore (lv' := [(10, .long z6), (8, .long y10), (21, .long z6), (12, .long z7), (19, .long z4), (17, .long z2), (14, .long y14), (16, .int y16)]) hx hb dX8_order_134 hl (by decide) rfl (fun ls hl => ?_)
            refine lv_lload hx hb dX8_order_136 (lv_at hl 3 rfl) ?_
            refine lv_lstore (lv' := [(21, .long z7), (10, .long z6), (8, .long y10), (12, .long z7), (19, .long z4), (17, .long z2), (14, .long y14), (16, .int y16)]) hx hb dX8_order_138 hl (by decide) rfl (fun ls hl => ?_)
            refine lv_lload hx hb dX8_order_140 (lv_at hl 6 rfl) ?_
            refine lv_lstore (lv' := [(12, .long y14), (21, .long z7), (10, .long z6), (8, .long y10), (19, .long z4), (17, .long z2), (14, .long y14), (16, .int y16)]) hx hb dX8_order_142 hl (by decide) rfl (fun ls hl => ?_)
            refine lv_lload hx hb dX8_order_144 (lv_at hl 1 rfl) ?_
            refine lv_lstore (lv' := [(14, .long z7), (12, .long y14), (21, .long z7), (10, .long z6), (8, .long y10), (19, .long z4), (17, .long z2), (16, .int y16)]) hx hb dX8_order_146 hl (by decide) rfl (fun ls hl => ?_)
            refine lv_iload hx hb dX8_order_148 (lv_at hl 7 rfl) ?_
            refine lv_ineg hx hb dX8_order_150 ?_
            refine lv_topi (fun z14 ez14 => ?_)
            have h := nm_at ez14 h
            refine lv_istore (lv' := [(16, .int z14), (14, .long z7), (12, .long y14), (21, .long z7), (10, .long z6), (8, .long y10), (19, .long z4), (17, .long z2)]) hx hb dX8_order_151 hl (by decide) rfl (fun ls hl => ?_)
            refine lv_goto (tgt := 17) hx hb dX8_order_153 (by decide) ?_
            exact ih17 y10 z6 y14 z7 z14 _ _ _ hP hD hS (lv_sub hl [5, 4, 2, 1, 0] rfl) h
          · have h := br_pos c13 h
            exact j90 z6 z7 y16 _ _ _ hP hD hS (lv_sub hl [1, 0, 6] rfl) h
      · have h := br_neg c5 h
        refine lv_lload hx hb dX8_order_39 (lv_at hl 1 rfl) ?_
        refine lv_lload hx hb dX8_order_41 (lv_at hl 0 rfl) ?_
        refine W.lcmp hx hb dX8_order_43 ?_
        refine lv_if_le (tgt := 52) hx hb dX8_order_44 (by decide) (fun c15 => ?_) (fun c15 => ?_)
        · have h := br_pos c15 h
          refine lv_iload hx hb dX8_order_52 (lv_at hl 6 rfl) ?_
          refine lv_ineg hx hb dX8_order_54 ?_
          obtain rfl := Option.some.inj h
          exact hret _ _ _ _ _ hP hD hS dX8_order_55 rfl rfl
        · have h := br_neg c15 h
          refine lv_iload hx hb dX8_order_47 (lv_at hl 6 rfl) ?_
          refine lv_goto (tgt := 55) hx hb dX8_order_49 (by decide) ?_
          obtain rfl := Option.some.inj h
          exact hret _ _ _ _ _ hP hD hS dX8_order_55 rfl rfl
  exact lp17 FU x0 x2 x4 x6 (1 : Int32) _ _ _ hP hD hS (lv_sub hl [4, 3, 2, 1, 0] rfl) h
/-! ===== X8_compare ===== -/
def w_X8_compare (cyI cyJ cyZ cyB cyO : ClassId) (aM aM_d aM_found aM_path aM_comesUp aM_comesDown aM_e aM_f aM_kept aM_tape aM_came aM_got aM_held aM_off aM_gets aM_gotNow aM_bitsOf aM_sizeOf aM_number aM_passing : Nat) (vM_isKept : Int32) (vM_taped : Int32) (vM_leaked : Int32) (vM_keptAll : Int32) (vM_offAll : Int32) (vM_up : Int64) (vM_down : Int64) (vM_sharesUp : Int64) (vM_sharesDown : Int64) (vM_onUp : Int64) (vM_onDown : Int64) (vM_great : Int32) (vM_triedOff : Int32) (vM_triedLeaked : Int32) (vM_triedKept : Int32) (vM_fitting : Int32) (vM_firstSet : Int32) (vM_inAll : Int32) (vM_inAny : Int32) (vM_at : Int32) (vM_sort : Int32) (vM_from : Int32) (vM_value : Int64) (vM_fault : Int32) (cM_d : Nat → Int32) (cM_found : Nat → Int32) (cM_path : Nat → Int32) (cM_comesUp : Nat → Int64) (cM_comesDown : Nat → Int64) : va_W := [(aM, .inr (7, [.ref aM_d, .ref aM_e, .ref aM_f, .ref aM_kept, .int vM_isKept, .ref aM_found, .ref aM_tape, .int vM_taped, .ref aM_came, .ref aM_got, .ref aM_held, .ref aM_off, .int vM_leaked, .int vM_keptAll, .int vM_offAll, .ref aM_comesUp, .ref aM_comesDown, .long vM_up, .long vM_down, .long vM_sharesUp, .long vM_sharesDown, .long vM_onUp, .long vM_onDown, .int vM_great, .ref aM_path, .ref aM_gets, .int vM_triedOff, .int vM_triedLeaked, .int vM_triedKept, .ref aM_gotNow, .int vM_fitting, .int vM_firstSet, .int vM_inAll, .int vM_inAny, .int vM_at, .int vM_sort, .int vM_from, .long vM_value, .int vM_fault, .ref aM_bitsOf, .ref aM_sizeOf, .ref aM_number, .ref aM_passing])), (aM_d, .inl (cyI, 64, .inl cM_d)), (aM_found, .inl (cyI, 7, .inl cM_found)), (aM_path, .inl (cyI, 10, .inl cM_path)), (aM_comesUp, .inl (cyJ, 10, .inr (.inl cM_comesUp))), (aM_comesDown, .inl (cyJ, 10, .inr (.inl cM_comesDown)))]
set_option maxHeartbeats 4000000 in
set_option maxRecDepth 100000 in
theorem t_X8_compare (l : Launch) (D : va_G) (cyI cyJ cyZ cyB cyO : ClassId) (aM aM_d aM_found aM_path aM_comesUp aM_comesDown aM_e aM_f aM_kept aM_tape aM_came aM_got aM_held aM_off aM_gets aM_gotNow aM_bitsOf aM_sizeOf aM_number aM_passing : Nat) (vM_isKept : Int32) (vM_taped : Int32) (vM_leaked : Int32) (vM_keptAll : Int32) (vM_offAll : Int32) (vM_up : Int64) (vM_down : Int64) (vM_sharesUp : Int64) (vM_sharesDown : Int64) (vM_onUp : Int64) (vM_onDown : Int64) (vM_great : Int32) (vM_triedOff : Int32) (vM_triedLeaked : Int32) (vM_triedKept : Int32) (vM_fitting : Int32) (vM_firstSet : Int32) (vM_inAll : Int32) (vM_inAny : Int32) (vM_at : Int32) (vM_sort : Int32) (vM_from : Int32) (vM_value : Int64) (vM_fault : Int32) (cM_d : Nat → Int32) (cM_found : Nat → Int32) (cM_path : Nat → Int32) (cM_comesUp : Nat → Int64) (cM_comesDown : Nat → Int64) (x1 : Int32) (x2 : Int32) (out : Int32 × Int64 × Int64 × Int64 × Int64 × Int64 × Int64 × Int32 × (Nat → Int32) × (Nat → Int32) × (Nat → Int64) × (Nat → Int64)) (h : f_X8_compare x1 x2 vM_up vM_down vM_sharesUp vM_sharesDown vM_onUp vM_onDown vM_great cM_d cM_found cM_path cM_comesUp cM_comesDown = some out) : Mi l yX8_compare wsX8_compare ({ frames := 5, cells := 0, slots := 0, locals := 136 } : Room) D (tyA cyI cyJ cyZ cyB cyO) [.ref aM, .int x1, .int x2] (w_X8_compare cyI cyJ cyZ cyB cyO aM aM_d aM_found aM_path aM_comesUp aM_comesDown aM_e aM_f aM_kept aM_tape aM_came aM_got aM_held aM_off aM_gets aM_gotNow aM_bitsOf aM_sizeOf aM_number aM_passing vM_isKept vM_taped vM_leaked vM_keptAll vM_offAll vM_up vM_down vM_sharesUp vM_sharesDown vM_onUp vM_onDown vM_great vM_triedOff vM_triedLeaked vM_triedKept vM_fitting vM_firstSet vM_inAll vM_inAny vM_at vM_sort vM_from vM_value vM_fault cM_d cM_found cM_path cM_comesUp cM_comesDown) (w_X8_compare cyI cyJ cyZ cyB cyO aM aM_d aM_found aM_path aM_comesUp aM_comesDown aM_e aM_f aM_kept aM_tape aM_came aM_got aM_held aM_off aM_gets aM_gotNow aM_bitsOf aM_sizeOf aM_number aM_passing vM_isKept vM_taped vM_leaked vM_keptAll vM_offAll out.2.1 out.2.2.1 out.2.2.2.1 out.2.2.2.2.1 out.2.2.2.2.2.1 out.2.2.2.2.2.2.1 out.2.2.2.2.2.2.2.1 vM_triedOff vM_triedLeaked vM_triedKept vM_fitting vM_firstSet vM_inAll vM_inAny vM_at vM_sort vM_from vM_value vM_fault cM_d out.2.2.2.2.2.2.2.2.1 out.2.2.2.2.2.2.2.2.2.1 out.2.2.2.2.2.2.2.2.2.2.1 out.2.2.2.2.2.2.2.2.2.2.2) out.1 := by
  refine Mi.mk (cc := cX8_compare) (maxL := 8) (rt := .int) (own := RX8) (by decide) rfl rfl (Nat.le_of_ble_eq_true rfl) ?_
  intro p e s m args below meth c A Q F hK hP hD hA hret ls hl
  obtain ⟨hx, hb, hml, hown, hts⟩ := id F
  have hS : va_S A s.heap s.heap [] := va_S.rf
  have hl : lv_has ls 8 [(0, .ref aM), (1, .int x1), (2, .int x2)] := hl
  have in_X8 : ∀ w ∈ wsX80, w ∈ wsX8_compare := by decide +kernel
  have q3 := hts (Cond.methodLink RX8 109 yX8_isBasin) (List.mem_of_getElem? (i := 3) rfl)
  have q12 := hts (Cond.methodLink RX8 115 yX8_finds) (List.mem_of_getElem? (i := 12) rfl)
  have q18 := hts (Cond.methodLink RX8 180 yX8_isShare) (List.mem_of_getElem? (i := 18) rfl)
  have q1 := hts (Cond.fieldLink RX8 160 "ThirdFountainModel" "sharesUp" "J") (List.mem_of_getElem? (i := 1) rfl)
  have q2 := hts (Cond.fieldLink RX8 163 "ThirdFountainModel" "sharesDown" "J") (List.mem_of_getElem? (i := 2) rfl)
  have q60 := hts (Cond.methodLink RX8 183 yX8_order) (List.mem_of_getElem? (i := 60) rfl)
  unfold f_X8_compare at h
  refine lv_aload_n hx hb dX8_compare_0 rfl (lv_at hl 0 rfl) ?_
  refine lv_iload_n hx hb dX8_compare_1 rfl (lv_at hl 1 rfl) ?_
  obtain ⟨u1, hu1, h⟩ := bd_some h
  refine cl_Vi (rest := []) F hK hP hD hS hA hl (t_X8_isBasin l D cyI cyJ cyZ cyB cyO aM aM_d aM_e aM_f aM_kept aM_found aM_tape aM_came aM_got aM_held aM_off aM_comesUp aM_comesDown aM_path aM_gets aM_gotNow aM_bitsOf aM_sizeOf aM_number aM_passing vM_isKept vM_taped vM_leaked vM_keptAll vM_offAll vM_up vM_down vM_sharesUp vM_sharesDown vM_onUp vM_onDown vM_great vM_triedOff vM_triedLeaked vM_triedKept vM_fitting vM_firstSet vM_inAll vM_inAny vM_at vM_sort vM_from vM_value vM_fault cM_d x1 u1 hu1) (cwV 1 hts gX8_compare_X8_isBasin rfl rfl rfl (by decide +kernel) ⟨Nat.le_of_ble_eq_true rfl, Nat.le_of_ble_eq_true rfl⟩) 0 [0, 1] [1, 2, 0, 0, 0, 0] [] (w_X8_compare cyI cyJ cyZ cyB cyO aM aM_d aM_found aM_path aM_comesUp aM_comesDown aM_e aM_f aM_kept aM_tape aM_came aM_got aM_held aM_off aM_gets aM_gotNow aM_bitsOf aM_sizeOf aM_number aM_passing vM_isKept vM_taped vM_leaked vM_keptAll vM_offAll vM_up vM_down vM_sharesUp vM_sharesDown vM_onUp vM_onDown vM_great vM_triedOff vM_triedLeaked vM_triedKept vM_fitting vM_firstSet vM_inAll vM_inAny vM_at vM_sort vM_from vM_value vM_fault cM_d cM_found cM_path cM_comesUp cM_comesDown) rfl rfl rfl rfl rfl (by decide +kernel) rfl rfl (Nat.le_of_ble_eq_true rfl) ⟨Nat.zero_le _, Nat.zero_le _⟩ dX8_compare_2 (fun H locs hP hD hS => ?_)
  refine lv_if_eq (tgt := 16) hx hb dX8_compare_5 (by decide) (fun c2 => ?_) (fun c2 => ?_)
  · have h := br_pos c2 h
    refine lv_aload_n hx hb dX8_compare_16 rfl (lv_at hl 0 rfl) ?_
    refine lv_iconst (v := 0) hx hb dX8_compare_17 (by decide) ?_
    obtain ⟨u3, hu3, h⟩ := bd_some h
    refine cl_Vi (rest := []) F hK hP hD hS hA hl (t_X8_finds l D cyI cyJ cyZ cyB cyO aM aM_found aM_d aM_e aM_f aM_kept aM_tape aM_came aM_got aM_held aM_off aM_comesUp aM_comesDown aM_path aM_gets aM_gotNow aM_bitsOf aM_sizeOf aM_number aM_passing vM_isKept vM_taped vM_leaked vM_keptAll vM_offAll vM_up vM_down vM_sharesUp vM_sharesDown vM_onUp vM_onDown vM_great vM_triedOff vM_triedLeaked vM_triedKept vM_fitting vM_firstSet vM_inAll vM_inAny vM_at vM_sort vM_from vM_value vM_fault cM_found (0 : Int32) u3 hu3) (cwV 1 hts gX8_compare_X8_finds rfl rfl rfl (by decide +kernel) ⟨Nat.le_of_ble_eq_true rfl, Nat.le_of_ble_eq_true rfl⟩) 0 [0, 2] [1, 0, 2, 0, 0, 0] [] (w_X8_compare cyI cyJ cyZ cyB cyO aM aM_d aM_found aM_path aM_comesUp aM_comesDown aM_e aM_f aM_kept aM_tape aM_came aM_got aM_held aM_off aM_gets aM_gotNow aM_bitsOf aM_sizeOf aM_number aM_passing vM_isKept vM_taped vM_leaked vM_keptAll vM_offAll vM_up vM_down vM_sharesUp vM_sharesDown vM_onUp vM_onDown vM_great vM_triedOff vM_triedLeaked vM_triedKept vM_fitting vM_firstSet vM_inAll vM_inAny vM_at vM_sort vM_from vM_value vM_fault cM_d u3.2 cM_path cM_comesUp cM_comesDown) rfl rfl rfl rfl rfl (by decide +kernel) rfl rfl (Nat.le_of_ble_eq_true rfl) ⟨Nat.zero_le _, Nat.zero_le _⟩ dX8_compare_18 (fun H locs hP hD hS => ?_)
    obtain rfl := Option.some.inj h
    exact hret _ _ _ _ _ hP hD hS dX8_compare_21 rfl rfl
  · have h := br_neg c2 h
    refine lv_aload_n hx hb dX8_compare_8 rfl (lv_at hl 0 rfl) ?_
    refine lv_iload_n hx hb dX8_compare_9 rfl (lv_at hl 2 rfl) ?_
    obtain ⟨u4, hu4, h⟩ := bd_some h
    refine cl_Vi (rest := []) F hK hP hD hS hA hl (t_X8_isBasin l D cyI cyJ cyZ cyB cyO aM aM_d aM_e aM_f aM_kept aM_found aM_tape aM_came aM_got aM_held aM_off aM_comesUp aM_comesDown aM_path aM_gets aM_gotNow aM_bitsOf aM_sizeOf aM_number aM_passing vM_isKept vM_taped vM_leaked vM_keptAll vM_offAll vM_up vM_down vM_sharesUp vM_sharesDown vM_onUp vM_onDown vM_great vM_triedOff vM_triedLeaked vM_triedKept vM_fitting vM_firstSet vM_inAll vM_inAny vM_at vM_sort vM_from vM_value vM_fault cM_d x2 u4 hu4) (cwV 1 hts gX8_compare_X8_isBasin rfl rfl rfl (by decide +kernel) ⟨Nat.le_of_ble_eq_true rfl, Nat.le_of_ble_eq_true rfl⟩) 0 [0, 1] [1, 2, 0, 0, 0, 0] [] (w_X8_compare cyI cyJ cyZ cyB cyO aM aM_d aM_found aM_path aM_comesUp aM_comesDown aM_e aM_f aM_kept aM_tape aM_came aM_got aM_held aM_off aM_gets aM_gotNow aM_bitsOf aM_sizeOf aM_number aM_passing vM_isKept vM_taped vM_leaked vM_keptAll vM_offAll vM_up vM_down vM_sharesUp vM_sharesDown vM_onUp vM_onDown vM_great vM_triedOff vM_triedLeaked vM_triedKept vM_fitting vM_firstSet vM_inAll vM_inAny vM_at vM_sort vM_from vM_value vM_fault cM_d cM_found cM_path cM_comesUp cM_comesDown) rfl rfl rfl rfl rfl (by decide +kernel) rfl rfl (Nat.le_of_ble_eq_true rfl) ⟨Nat.zero_le _, Nat.zero_le _⟩ dX8_compare_10 (fun H locs hP hD hS => ?_)
    refine lv_if_ne (tgt := 22) hx hb dX8_compare_13 (by decide) (fun c5 => ?_) (fun c5 => ?_)
    · have h := br_neg c5 h
      refine lv_aload_n hx hb dX8_compare_22 rfl (lv_at hl 0 rfl) ?_
      refine lv_iload_n hx hb dX8_compare_23 rfl (lv_at hl 1 rfl) ?_
      obtain ⟨u6, hu6, h⟩ := bd_some h
      refine cl_Vi (rest := []) F hK hP hD hS hA hl (t_X8_isShare l D cyI cyJ cyZ cyB cyO aM aM_path aM_comesUp aM_comesDown aM_d aM_e aM_f aM_kept aM_found aM_tape aM_came aM_got aM_held aM_off aM_gets aM_gotNow aM_bitsOf aM_sizeOf aM_number aM_passing vM_isKept vM_taped vM_leaked vM_keptAll vM_offAll vM_up vM_down vM_sharesUp vM_sharesDown vM_onUp vM_onDown vM_great vM_triedOff vM_triedLeaked vM_triedKept vM_fitting vM_firstSet vM_inAll vM_inAny vM_at vM_sort vM_from vM_value vM_fault cM_path cM_comesUp cM_comesDown cM_d x1 u6 hu6) (cwV 1 hts gX8_compare_X8_isShare rfl rfl rfl (by decide +kernel) ⟨Nat.le_of_ble_eq_true rfl, Nat.le_of_ble_eq_true rfl⟩) 0 [0, 3, 4, 5, 1] [1, 5, 0, 2, 3, 4] [] (w_X8_compare cyI cyJ cyZ cyB cyO aM aM_d aM_found aM_path aM_comesUp aM_comesDown aM_e aM_f aM_kept aM_tape aM_came aM_got aM_held aM_off aM_gets aM_gotNow aM_bitsOf aM_sizeOf aM_number aM_passing vM_isKept vM_taped vM_leaked vM_keptAll vM_offAll u6.2.1 u6.2.2.1 u6.2.2.2.1 u6.2.2.2.2.1 u6.2.2.2.2.2.1 u6.2.2.2.2.2.2.1 u6.2.2.2.2.2.2.2.1 vM_triedOff vM_triedLeaked vM_triedKept vM_fitting vM_firstSet vM_inAll vM_inAny vM_at vM_sort vM_from vM_value vM_fault cM_d cM_found u6.2.2.2.2.2.2.2.2.1 u6.2.2.2.2.2.2.2.2.2.1 u6.2.2.2.2.2.2.2.2.2.2) rfl rfl rfl rfl rfl (by decide +kernel) rfl rfl (Nat.le_of_ble_eq_true rfl) ⟨Nat.zero_le _, Nat.zero_le _⟩ dX8_compare_24 (fun H locs hP hD hS => ?_)
      refine lv_istore_n (lv' := [(3, .int u6.1), (0, .ref aM), (1, .int x1), (2, .int x2)]) hx hb dX8_compare_27 rfl hl (by decide) rfl (fun ls hl => ?_)
      refine lv_aload_n hx hb dX8_compare_28 rfl (lv_at hl 1 rfl) ?_
      refine va_get (D := D) (ci := 7) (v := .long u6.2.2.2.1) (C := RX8) (T := TX8) (N := 43) hx hb hts in_X8 hown hK hP 0 rfl rfl 19 (by decide) q1 (fun _ h9 => h9) rfl dX8_compare_29 ?_
      refine lv_lstore (lv' := [(4, .long u6.2.2.2.1), (3, .int u6.1), (0, .ref aM), (1, .int x1), (2, .int x2)]) hx hb dX8_compare_32 hl (by decide) rfl (fun ls hl => ?_)
      refine lv_aload_n hx hb dX8_compare_34 rfl (lv_at hl 2 rfl) ?_
      refine va_get (D := D) (ci := 7) (v := .long u6.2.2.2.2.1) (C := RX8) (T := TX8) (N := 43) hx hb hts in_X8 hown hK hP 0 rfl rfl 20 (by decide) q2 (fun _ h9 => h9) rfl dX8_compare_35 ?_
      refine lv_lstore (lv' := [(6, .long u6.2.2.2.2.1), (4, .long u6.2.2.2.1), (3, .int u6.1), (0, .ref aM), (1, .int x1), (2, .int x2)]) hx hb dX8_compare_38 hl (by decide) rfl (fun ls hl => ?_)
      refine lv_aload_n hx hb dX8_compare_40 rfl (lv_at hl 3 rfl) ?_
      refine lv_iload_n hx hb dX8_compare_41 rfl (lv_at hl 5 rfl) ?_
      obtain ⟨u7, hu7, h⟩ := bd_some h
      refine cl_Vi (rest := []) F hK hP hD hS hA hl (t_X8_isShare l D cyI cyJ cyZ cyB cyO aM aM_path aM_comesUp aM_comesDown aM_d aM_e aM_f aM_kept aM_found aM_tape aM_came aM_got aM_held aM_off aM_gets aM_gotNow aM_bitsOf aM_sizeOf aM_number aM_passing vM_isKept vM_taped vM_leaked vM_keptAll vM_offAll u6.2.1 u6.2.2.1 u6.2.2.2.1 u6.2.2.2.2.1 u6.2.2.2.2.2.1 u6.2.2.2.2.2.2.1 u6.2.2.2.2.2.2.2.1 vM_triedOff vM_triedLeaked vM_triedKept vM_fitting vM_firstSet vM_inAll vM_inAny vM_at vM_sort vM_from vM_value vM_fault u6.2.2.2.2.2.2.2.2.1 u6.2.2.2.2.2.2.2.2.2.1 u6.2.2.2.2.2.2.2.2.2.2 cM_d x2 u7 hu7) (cwV 1 hts gX8_compare_X8_isShare rfl rfl rfl (by decide +kernel) ⟨Nat.le_of_ble_eq_true rfl, Nat.le_of_ble_eq_true rfl⟩) 0 [0, 3, 4, 5, 1] [1, 5, 0, 2, 3, 4] [] (w_X8_compare cyI cyJ cyZ cyB cyO aM aM_d aM_found aM_path aM_comesUp aM_comesDown aM_e aM_f aM_kept aM_tape aM_came aM_got aM_held aM_off aM_gets aM_gotNow aM_bitsOf aM_sizeOf aM_number aM_passing vM_isKept vM_taped vM_leaked vM_keptAll vM_offAll u7.2.1 u7.2.2.1 u7.2.2.2.1 u7.2.2.2.2.1 u7.2.2.2.2.2.1 u7.2.2.2.2.2.2.1 u7.2.2.2.2.2.2.2.1 vM_triedOff vM_triedLeaked vM_triedKept vM_fitting vM_firstSet vM_inAll vM_inAny vM_at vM_sort vM_from vM_value vM_fault cM_d cM_found u7.2.2.2.2.2.2.2.2.1 u7.2.2.2.2.2.2.2.2.2.1 u7.2.2.2.2.2.2.2.2.2.2) rfl rfl rfl rfl rfl (by decide +kernel) rfl rfl (Nat.le_of_ble_eq_true rfl) ⟨Nat.zero_le _, Nat.zero_le _⟩ dX8_compare_42 (fun H locs hP hD hS => ?_)
      have j57 : ∀ (y4 : Int64) (y6 : Int64) (t0 : Int32) (vM_up : Int64) (vM_down : Int64) (vM_sharesUp : Int64) (vM_sharesDown : Int64) (vM_onUp : Int64) (vM_onDown : Int64) (vM_great : Int32) (cM_found : Nat → Int32) (cM_path : Nat → Int32) (cM_comesUp : Nat → Int64) (cM_comesDown : Nat → Int64) (H : Heap) (locs : List Loc) (ls : Array Slot), va_P D vwCl (w_X8_compare cyI cyJ cyZ cyB cyO aM aM_d aM_found aM_path aM_comesUp aM_comesDown aM_e aM_f aM_kept aM_tape aM_came aM_got aM_held aM_off aM_gets aM_gotNow aM_bitsOf aM_sizeOf aM_number aM_passing vM_isKept vM_taped vM_leaked vM_keptAll vM_offAll vM_up vM_down vM_sharesUp vM_sharesDown vM_onUp vM_onDown vM_great vM_triedOff vM_triedLeaked vM_triedKept vM_fitting vM_firstSet vM_inAll vM_inAny vM_at vM_sort vM_from vM_value vM_fault cM_d cM_found cM_path cM_comesUp cM_comesDown) H → va_D A (w_X8_compare cyI cyJ cyZ cyB cyO aM aM_d aM_found aM_path aM_comesUp aM_comesDown aM_e aM_f aM_kept aM_tape aM_came aM_got aM_held aM_off aM_gets aM_gotNow aM_bitsOf aM_sizeOf aM_number aM_passing vM_isKept vM_taped vM_leaked vM_keptAll vM_offAll vM_up vM_down vM_sharesUp vM_sharesDown vM_onUp vM_onDown vM_great vM_triedOff vM_triedLeaked vM_triedKept vM_fitting vM_firstSet vM_inAll vM_inAny vM_at vM_sort vM_from vM_value vM_fault cM_d cM_found cM_path cM_comesUp cM_comesDown) → va_S A s.heap H locs → lv_has ls 8 [(4, .long y4), (6, .long y6), (0, .ref aM)] → f_X8_compare_J57 x1 x2 cM_d y4 y6 t0 vM_up vM_down vM_sharesUp vM_sharesDown vM_onUp vM_onDown vM_great cM_found cM_path cM_comesUp cM_comesDown = some out → W p l e ({ frames := 5, cells := 0, slots := 0, locals := 136 } : Room) s m args below meth c H locs 0 0 Q (F0 m 57 ls [.int t0]) := by
        intro y4 y6 t0 vM_up vM_down vM_sharesUp vM_sharesDown vM_onUp vM_onDown vM_great cM_found cM_path cM_comesUp cM_comesDown H locs ls hP hD hS hl h
        unfold f_X8_compare_J57 at h
        refine lv_istore_n (lv' := [(3, .int t0), (4, .long y4), (6, .long y6), (0, .ref aM)]) hx hb dX8_compare_57 rfl hl (by decide) rfl (fun ls hl => ?_)
        refine lv_iload_n hx hb dX8_compare_58 rfl (lv_at hl 0 rfl) ?_
        refine lv_if_eq (tgt := 80) hx hb dX8_compare_59 (by decide) (fun c8 => ?_) (fun c8 => ?_)
        · have h := br_pos c8 h
          refine lv_aload_n hx hb dX8_compare_80 rfl (lv_at hl 3 rfl) ?_
          refine lv_bipush (v := 6) hx hb dX8_compare_81 (by decide) ?_
          obtain ⟨u9, hu9, h⟩ := bd_some h
          refine cl_Vi (rest := []) F hK hP hD hS hA hl (t_X8_finds l D cyI cyJ cyZ cyB cyO aM aM_found aM_d aM_e aM_f aM_kept aM_tape aM_came aM_got aM_held aM_off aM_comesUp aM_comesDown aM_path aM_gets aM_gotNow aM_bitsOf aM_sizeOf aM_number aM_passing vM_isKept vM_taped vM_leaked vM_keptAll vM_offAll vM_up vM_down vM_sharesUp vM_sharesDown vM_onUp vM_onDown vM_great vM_triedOff vM_triedLeaked vM_triedKept vM_fitting vM_firstSet vM_inAll vM_inAny vM_at vM_sort vM_from vM_value vM_fault cM_found (6 : Int32) u9 hu9) (cwV 1 hts gX8_compare_X8_finds rfl rfl rfl (by decide +kernel) ⟨Nat.le_of_ble_eq_true rfl, Nat.le_of_ble_eq_true rfl⟩) 0 [0, 2] [1, 0, 2, 0, 0, 0] [] (w_X8_compare cyI cyJ cyZ cyB cyO aM aM_d aM_found aM_path aM_comesUp aM_comesDown aM_e aM_f aM_kept aM_tape aM_came aM_got aM_held aM_off aM_gets aM_gotNow aM_bitsOf aM_sizeOf aM_number aM_passing vM_isKept vM_taped vM_leaked vM_keptAll vM_offAll vM_up vM_down vM_sharesUp vM_sharesDown vM_onUp vM_onDown vM_great vM_triedOff vM_triedLeaked vM_triedKept vM_fitting vM_firstSet vM_inAll vM_inAny vM_at vM_sort vM_from vM_value vM_fault cM_d u9.2 cM_path cM_comesUp cM_comesDown) rfl rfl rfl rfl rfl (by decide +kernel) rfl rfl (Nat.le_of_ble_eq_true rfl) ⟨Nat.zero_le _, Nat.zero_le _⟩ dX8_compare_83 (fun H locs hP hD hS => ?_)
          obtain rfl := Option.some.inj h
          exact hret _ _ _ _ _ hP hD hS dX8_compare_86 rfl rfl
        · have h := br_neg c8 h
          refine lv_lload hx hb dX8_compare_62 (lv_at hl 1 rfl) ?_
          refine lv_lload hx hb dX8_compare_64 (lv_at hl 2 rfl) ?_
          refine lv_aload_n hx hb dX8_compare_66 rfl (lv_at hl 3 rfl) ?_
          refine va_get (D := D) (ci := 7) (v := .long vM_sharesUp) (C := RX8) (T := TX8) (N := 43) hx hb hts in_X8 hown hK hP 0 rfl rfl 19 (by decide) q1 (fun _ h9 => h9) rfl dX8_compare_67 ?_
          refine lv_aload_n hx hb dX8_compare_70 rfl (lv_at hl 3 rfl) ?_
          refine va_get (D := D) (ci := 7) (v := .long vM_sharesDown) (C := RX8) (T := TX8) (N := 43) hx hb hts in_X8 hown hK hP 0 rfl rfl 20 (by decide) q2 (fun _ h9 => h9) rfl dX8_compare_71 ?_
          obtain ⟨u10, hu10, h⟩ := bd_some h
          refine cl_Si (rest := []) F hK hP hD hS hA hl (t_X8_order l D cyI cyJ cyZ cyB cyO y4 y6 vM_sharesUp vM_sharesDown u10 hu10) (va_cwS 4 hts gX8_compare_X8_order rfl rfl rfl (by decide +kernel) ⟨Nat.le_of_ble_eq_true rfl, Nat.le_of_ble_eq_true rfl⟩) [] [0, 0, 0, 0, 0, 0] [] (w_X8_compare cyI cyJ cyZ cyB cyO aM aM_d aM_found aM_path aM_comesUp aM_comesDown aM_e aM_f aM_kept aM_tape aM_came aM_got aM_held aM_off aM_gets aM_gotNow aM_bitsOf aM_sizeOf aM_number aM_passing vM_isKept vM_taped vM_leaked vM_keptAll vM_offAll vM_up vM_down vM_sharesUp vM_sharesDown vM_onUp vM_onDown vM_great vM_triedOff vM_triedLeaked vM_triedKept vM_fitting vM_firstSet vM_inAll vM_inAny vM_at vM_sort vM_from vM_value vM_fault cM_d cM_found cM_path cM_comesUp cM_comesDown) rfl rfl rfl (by decide +kernel) rfl rfl (Nat.le_of_ble_eq_true rfl) ⟨Nat.zero_le _, Nat.zero_le _⟩ dX8_compare_74 (fun H locs hP hD hS => ?_)
          refine lv_goto (tgt := 86) hx hb dX8_compare_77 (by decide) ?_
          obtain rfl := Option.some.inj h
          exact hret _ _ _ _ _ hP hD hS dX8_compare_86 rfl rfl
      refine lv_if_eq (tgt := 56) hx hb dX8_compare_45 (by decide) (fun c11 => ?_) (fun c11 => ?_)
      · have h := br_pos c11 h
        refine lv_iconst (v := 0) hx hb dX8_compare_56 (by decide) ?_
        exact j57 u6.2.2.2.1 u6.2.2.2.2.1 (0 : Int32) u7.2.1 u7.2.2.1 u7.2.2.2.1 u7.2.2.2.2.1 u7.2.2.2.2.2.1 u7.2.2.2.2.2.2.1 u7.2.2.2.2.2.2.2.1 cM_found u7.2.2.2.2.2.2.2.2.1 u7.2.2.2.2.2.2.2.2.2.1 u7.2.2.2.2.2.2.2.2.2.2 _ _ _ hP hD hS (lv_sub hl [1, 0, 3] rfl) h
      · have h := br_neg c11 h
        refine lv_iload_n hx hb dX8_compare_48 rfl (lv_at hl 2 rfl) ?_
        refine lv_if_eq (tgt := 56) hx hb dX8_compare_49 (by decide) (fun c12 => ?_) (fun c12 => ?_)
        · have h := br_pos c12 h
          refine lv_iconst (v := 0) hx hb dX8_compare_56 (by decide) ?_
          exact j57 u6.2.2.2.1 u6.2.2.2.2.1 (0 : Int32) u7.2.1 u7.2.2.1 u7.2.2.2.1 u7.2.2.2.2.1 u7.2.2.2.2.2.1 u7.2.2.2.2.2.2.1 u7.2.2.2.2.2.2.2.1 cM_found u7.2.2.2.2.2.2.2.2.1 u7.2.2.2.2.2.2.2.2.2.1 u7.2.2.2.2.2.2.2.2.2.2 _ _ _ hP hD hS (lv_sub hl [1, 0, 3] rfl) h
        · have h := br_neg c12 h
          refine lv_iconst (v := 1) hx hb dX8_compare_52 (by decide) ?_
          refine lv_goto (tgt := 57) hx hb dX8_compare_53 (by decide) ?_
          exact j57 u6.2.2.2.1 u6.2.2.2.2.1 (1 : Int32) u7.2.1 u7.2.2.1 u7.2.2.2.1 u7.2.2.2.2.1 u7.2.2.2.2.2.1 u7.2.2.2.2.2.2.1 u7.2.2.2.2.2.2.2.1 cM_found u7.2.2.2.2.2.2.2.2.1 u7.2.2.2.2.2.2.2.2.2.1 u7.2.2.2.2.2.2.2.2.2.2 _ _ _ hP hD hS (lv_sub hl [1, 0, 3] rfl) h
    · have h := br_pos c5 h
      refine lv_aload_n hx hb dX8_compare_16 rfl (lv_at hl 0 rfl) ?_
      refine lv_iconst (v := 0) hx hb dX8_compare_17 (by decide) ?_
      obtain ⟨u13, hu13, h⟩ := bd_some h
      refine cl_Vi (rest := []) F hK hP hD hS hA hl (t_X8_finds l D cyI cyJ cyZ cyB cyO aM aM_found aM_d aM_e aM_f aM_kept aM_tape aM_came aM_got aM_held aM_off aM_comesUp aM_comesDown aM_path aM_gets aM_gotNow aM_bitsOf aM_sizeOf aM_number aM_passing vM_isKept vM_taped vM_leaked vM_keptAll vM_offAll vM_up vM_down vM_sharesUp vM_sharesDown vM_onUp vM_onDown vM_great vM_triedOff vM_triedLeaked vM_triedKept vM_fitting vM_firstSet vM_inAll vM_inAny vM_at vM_sort vM_from vM_value vM_fault cM_found (0 : Int32) u13 hu13) (cwV 1 hts gX8_compare_X8_finds rfl rfl rfl (by decide +kernel) ⟨Nat.le_of_ble_eq_true rfl, Nat.le_of_ble_eq_true rfl⟩) 0 [0, 2] [1, 0, 2, 0, 0, 0] [] (w_X8_compare cyI cyJ cyZ cyB cyO aM aM_d aM_found aM_path aM_comesUp aM_comesDown aM_e aM_f aM_kept aM_tape aM_came aM_got aM_held aM_off aM_gets aM_gotNow aM_bitsOf aM_sizeOf aM_number aM_passing vM_isKept vM_taped vM_leaked vM_keptAll vM_offAll vM_up vM_down vM_sharesUp vM_sharesDown vM_onUp vM_onDown vM_great vM_triedOff vM_triedLeaked vM_triedKept vM_fitting vM_firstSet vM_inAll vM_inAny vM_at vM_sort vM_from vM_value vM_fault cM_d u13.2 cM_path cM_comesUp cM_comesDown) rfl rfl rfl rfl rfl (by decide +kernel) rfl rfl (Nat.le_of_ble_eq_true rfl) ⟨Nat.zero_le _, Nat.zero_le _⟩ dX8_compare_18 (fun H locs hP hD hS => ?_)
      obtain rfl := Option.some.inj h
      exact hret _ _ _ _ _ hP hD hS dX8_compare_21 rfl rfl
/-! ===== X8_extreme ===== -/
def w_X8_extreme (cyI cyJ cyZ cyB cyO : ClassId) (aM aM_d aM_path aM_comesUp aM_comesDown aM_found aM_e aM_f aM_kept aM_tape aM_came aM_got aM_held aM_off aM_gets aM_gotNow aM_bitsOf aM_sizeOf aM_number aM_passing : Nat) (vM_isKept : Int32) (vM_taped : Int32) (vM_leaked : Int32) (vM_keptAll : Int32) (vM_offAll : Int32) (vM_up : Int64) (vM_down : Int64) (vM_sharesUp : Int64) (vM_sharesDown : Int64) (vM_onUp : Int64) (vM_onDown : Int64) (vM_great : Int32) (vM_triedOff : Int32) (vM_triedLeaked : Int32) (vM_triedKept : Int32) (vM_fitting : Int32) (vM_firstSet : Int32) (vM_inAll : Int32) (vM_inAny : Int32) (vM_at : Int32) (vM_sort : Int32) (vM_from : Int32) (vM_value : Int64) (vM_fault : Int32) (cM_d : Nat → Int32) (cM_path : Nat → Int32) (cM_comesUp : Nat → Int64) (cM_comesDown : Nat → Int64) (cM_found : Nat → Int32) : va_W := [(aM, .inr (7, [.ref aM_d, .ref aM_e, .ref aM_f, .ref aM_kept, .int vM_isKept, .ref aM_found, .ref aM_tape, .int vM_taped, .ref aM_came, .ref aM_got, .ref aM_held, .ref aM_off, .int vM_leaked, .int vM_keptAll, .int vM_offAll, .ref aM_comesUp, .ref aM_comesDown, .long vM_up, .long vM_down, .long vM_sharesUp, .long vM_sharesDown, .long vM_onUp, .long vM_onDown, .int vM_great, .ref aM_path, .ref aM_gets, .int vM_triedOff, .int vM_triedLeaked, .int vM_triedKept, .ref aM_gotNow, .int vM_fitting, .int vM_firstSet, .int vM_inAll, .int vM_inAny, .int vM_at, .int vM_sort, .int vM_from, .long vM_value, .int vM_fault, .ref aM_bitsOf, .ref aM_sizeOf, .ref aM_number, .ref aM_passing])), (aM_d, .inl (cyI, 64, .inl cM_d)), (aM_path, .inl (cyI, 10, .inl cM_path)), (aM_comesUp, .inl (cyJ, 10, .inr (.inl cM_comesUp))), (aM_comesDown, .inl (cyJ, 10, .inr (.inl cM_comesDown))), (aM_found, .inl (cyI, 7, .inl cM_found))]
set_option maxHeartbeats 4000000 in
set_option maxRecDepth 100000 in
theorem t_X8_extreme (l : Launch) (D : va_G) (cyI cyJ cyZ cyB cyO : ClassId) (aM aM_d aM_path aM_comesUp aM_comesDown aM_found aM_e aM_f aM_kept aM_tape aM_came aM_got aM_held aM_off aM_gets aM_gotNow aM_bitsOf aM_sizeOf aM_number aM_passing : Nat) (vM_isKept : Int32) (vM_taped : Int32) (vM_leaked : Int32) (vM_keptAll : Int32) (vM_offAll : Int32) (vM_up : Int64) (vM_down : Int64) (vM_sharesUp : Int64) (vM_sharesDown : Int64) (vM_onUp : Int64) (vM_onDown : Int64) (vM_great : Int32) (vM_triedOff : Int32) (vM_triedLeaked : Int32) (vM_triedKept : Int32) (vM_fitting : Int32) (vM_firstSet : Int32) (vM_inAll : Int32) (vM_inAny : Int32) (vM_at : Int32) (vM_sort : Int32) (vM_from : Int32) (vM_value : Int64) (vM_fault : Int32) (cM_d : Nat → Int32) (cM_path : Nat → Int32) (cM_comesUp : Nat → Int64) (cM_comesDown : Nat → Int64) (cM_found : Nat → Int32) (x1 : Int32) (out : Int32 × Int64 × Int64 × Int64 × Int64 × Int64 × Int64 × Int32 × (Nat → Int32) × (Nat → Int64) × (Nat → Int64) × (Nat → Int32)) (h : f_X8_extreme x1 vM_up vM_down vM_sharesUp vM_sharesDown vM_onUp vM_onDown vM_great cM_d cM_path cM_comesUp cM_comesDown cM_found = some out) : Mi l yX8_extreme wsX8_extreme ({ frames := 5, cells := 0, slots := 0, locals := 136 } : Room) D (tyA cyI cyJ cyZ cyB cyO) [.ref aM, .int x1] (w_X8_extreme cyI cyJ cyZ cyB cyO aM aM_d aM_path aM_comesUp aM_comesDown aM_found aM_e aM_f aM_kept aM_tape aM_came aM_got aM_held aM_off aM_gets aM_gotNow aM_bitsOf aM_sizeOf aM_number aM_passing vM_isKept vM_taped vM_leaked vM_keptAll vM_offAll vM_up vM_down vM_sharesUp vM_sharesDown vM_onUp vM_onDown vM_great vM_triedOff vM_triedLeaked vM_triedKept vM_fitting vM_firstSet vM_inAll vM_inAny vM_at vM_sort vM_from vM_value vM_fault cM_d cM_path cM_comesUp cM_comesDown cM_found) (w_X8_extreme cyI cyJ cyZ cyB cyO aM aM_d aM_path aM_comesUp aM_comesDown aM_found aM_e aM_f aM_kept aM_tape aM_came aM_got aM_held aM_off aM_gets aM_gotNow aM_bitsOf aM_sizeOf aM_number aM_passing vM_isKept vM_taped vM_leaked vM_keptAll vM_offAll out.2.1 out.2.2.1 out.2.2.2.1 out.2.2.2.2.1 out.2.2.2.2.2.1 out.2.2.2.2.2.2.1 out.2.2.2.2.2.2.2.1 vM_triedOff vM_triedLeaked vM_triedKept vM_fitting vM_firstSet vM_inAll vM_inAny vM_at vM_sort vM_from vM_value vM_fault cM_d out.2.2.2.2.2.2.2.2.1 out.2.2.2.2.2.2.2.2.2.1 out.2.2.2.2.2.2.2.2.2.2.1 out.2.2.2.2.2.2.2.2.2.2.2) out.1 := by
  refine Mi.mk (cc := cX8_extreme) (maxL := 9) (rt := .int) (own := RX8) (by decide) rfl rfl (Nat.le_of_ble_eq_true rfl) ?_
  intro p e s m args below meth c A Q F hK hP hD hA hret ls hl
  obtain ⟨hx, hb, hml, hown, hts⟩ := id F
  have hS : va_S A s.heap s.heap [] := va_S.rf
  have hl : lv_has ls 9 [(0, .ref aM), (1, .int x1)] := hl
  have in_X8 : ∀ w ∈ wsX80, w ∈ wsX8_extreme := by decide +kernel
  have q4 := hts (Cond.methodLink RX8 70 yX8_in) (List.mem_of_getElem? (i := 4) rfl)
  have q1 := hts (Cond.fieldLink RX8 7 "ThirdFountainModel" "d" "[I") (List.mem_of_getElem? (i := 1) rfl)
  have q14 := hts (Cond.methodLink RX8 180 yX8_isShare) (List.mem_of_getElem? (i := 14) rfl)
  have q2 := hts (Cond.fieldLink RX8 160 "ThirdFountainModel" "sharesUp" "J") (List.mem_of_getElem? (i := 2) rfl)
  have q3 := hts (Cond.fieldLink RX8 163 "ThirdFountainModel" "sharesDown" "J") (List.mem_of_getElem? (i := 3) rfl)
  have q56 := hts (Cond.methodLink RX8 183 yX8_order) (List.mem_of_getElem? (i := 56) rfl)
  have q8 := hts (Cond.methodLink RX8 115 yX8_finds) (List.mem_of_getElem? (i := 8) rfl)
  unfold f_X8_extreme at h
  refine lv_iload_n hx hb dX8_extreme_0 rfl (lv_at hl 1 rfl) ?_
  refine lv_i2l hx hb dX8_extreme_1 rfl ?_
  refine lv_lconst (v := 0) hx hb dX8_extreme_2 (by decide) ?_
  refine lv_lconst (v := 1) hx hb dX8_extreme_3 (by decide) ?_
  obtain ⟨u1, hu1, h⟩ := bd_some h
  refine cl_Si (rest := []) F hK hP hD hS hA hl (t_X8_in l D cyI cyJ cyZ cyB cyO x1.toInt64 (0 : Int64) (1 : Int64) u1 hu1) (va_cwS 3 hts gX8_extreme_X8_in rfl rfl rfl (by decide +kernel) ⟨Nat.le_of_ble_eq_true rfl, Nat.le_of_ble_eq_true rfl⟩) [] [0, 0, 0, 0, 0, 0] [] (w_X8_extreme cyI cyJ cyZ cyB cyO aM aM_d aM_path aM_comesUp aM_comesDown aM_found aM_e aM_f aM_kept aM_tape aM_came aM_got aM_held aM_off aM_gets aM_gotNow aM_bitsOf aM_sizeOf aM_number aM_passing vM_isKept vM_taped vM_leaked vM_keptAll vM_offAll vM_up vM_down vM_sharesUp vM_sharesDown vM_onUp vM_onDown vM_great vM_triedOff vM_triedLeaked vM_triedKept vM_fitting vM_firstSet vM_inAll vM_inAny vM_at vM_sort vM_from vM_value vM_fault cM_d cM_path cM_comesUp cM_comesDown cM_found) rfl rfl rfl (by decide +kernel) rfl rfl (Nat.le_of_ble_eq_true rfl) ⟨Nat.zero_le _, Nat.zero_le _⟩ dX8_extreme_4 (fun H locs hP hD hS => ?_)
  refine lv_if_ne (tgt := 16) hx hb dX8_extreme_7 (by decide) (fun c2 => ?_) (fun c2 => ?_)
  · have h := br_neg c2 h
    refine lv_aload_n hx hb dX8_extreme_16 rfl (lv_at hl 0 rfl) ?_
    refine va_get (D := D) (ci := 7) (v := .ref aM_d) (C := RX8) (T := TX8) (N := 43) hx hb hts in_X8 hown hK hP 0 rfl rfl 0 (by decide) q1 (fun _ h9 => h9) rfl dX8_extreme_17 ?_
    refine lv_iconst (v := 0) hx hb dX8_extreme_20 (by decide) ?_
    refine va_iald hx hb hK hP 1 0 rfl rfl (by unfold vp_in; decide) dX8_extreme_21 ?_
    refine lv_if_ne (tgt := 31) hx hb dX8_extreme_22 (by decide) (fun c3 => ?_) (fun c3 => ?_)
    · have h := br_neg c3 h
      refine lv_iconst (v := -1) hx hb dX8_extreme_31 (by decide) ?_
      refine lv_istore_n (lv' := [(2, .int (-1 : Int32)), (0, .ref aM), (1, .int x1)]) hx hb dX8_extreme_32 rfl hl (by decide) rfl (fun ls hl => ?_)
      refine lv_lconst (v := 0) hx hb dX8_extreme_33 (by decide) ?_
      refine lv_lstore_n (lv' := [(3, .long (0 : Int64)), (2, .int (-1 : Int32)), (0, .ref aM), (1, .int x1)]) hx hb dX8_extreme_34 rfl hl (by decide) rfl (fun ls hl => ?_)
      refine lv_lconst (v := 1) hx hb dX8_extreme_35 (by decide) ?_
      refine lv_lstore (lv' := [(5, .long (1 : Int64)), (3, .long (0 : Int64)), (2, .int (-1 : Int32)), (0, .ref aM), (1, .int x1)]) hx hb dX8_extreme_36 hl (by decide) rfl (fun ls hl => ?_)
      refine lv_iconst (v := 0) hx hb dX8_extreme_38 (by decide) ?_
      refine lv_istore (lv' := [(7, .int (0 : Int32)), (5, .long (1 : Int64)), (3, .long (0 : Int64)), (2, .int (-1 : Int32)), (0, .ref aM), (1, .int x1)]) hx hb dX8_extreme_39 hl (by decide) rfl (fun ls hl => ?_)
      have lp41 : ∀ (k41 : Nat) (y2 : Int32) (y3 : Int64) (y5 : Int64) (y7 : Int32) (vM_up : Int64) (vM_down : Int64) (vM_sharesUp : Int64) (vM_sharesDown : Int64) (vM_onUp : Int64) (vM_onDown : Int64) (vM_great : Int32) (cM_path : Nat → Int32) (cM_comesUp : Nat → Int64) (cM_comesDown : Nat → Int64) (cM_found : Nat → Int32) (H : Heap) (locs : List Loc) (ls : Array Slot), va_P D vwCl (w_X8_extreme cyI cyJ cyZ cyB cyO aM aM_d aM_path aM_comesUp aM_comesDown aM_found aM_e aM_f aM_kept aM_tape aM_came aM_got aM_held aM_off aM_gets aM_gotNow aM_bitsOf aM_sizeOf aM_number aM_passing vM_isKept vM_taped vM_leaked vM_keptAll vM_offAll vM_up vM_down vM_sharesUp vM_sharesDown vM_onUp vM_onDown vM_great vM_triedOff vM_triedLeaked vM_triedKept vM_fitting vM_firstSet vM_inAll vM_inAny vM_at vM_sort vM_from vM_value vM_fault cM_d cM_path cM_comesUp cM_comesDown cM_found) H → va_D A (w_X8_extreme cyI cyJ cyZ cyB cyO aM aM_d aM_path aM_comesUp aM_comesDown aM_found aM_e aM_f aM_kept aM_tape aM_came aM_got aM_held aM_off aM_gets aM_gotNow aM_bitsOf aM_sizeOf aM_number aM_passing vM_isKept vM_taped vM_leaked vM_keptAll vM_offAll vM_up vM_down vM_sharesUp vM_sharesDown vM_onUp vM_onDown vM_great vM_triedOff vM_triedLeaked vM_triedKept vM_fitting vM_firstSet vM_inAll vM_inAny vM_at vM_sort vM_from vM_value vM_fault cM_d cM_path cM_comesUp cM_comesDown cM_found) → va_S A s.heap H locs → lv_has ls 9 [(2, .int y2), (3, .long y3), (5, .long y5), (7, .int y7), (0, .ref aM), (1, .int x1)] → (f_X8_extreme_L41 x1 cM_d k41) (y2, y3, y5, y7, vM_up, vM_down, vM_sharesUp, vM_sharesDown, vM_onUp, vM_onDown, vM_great, cM_path, cM_comesUp, cM_comesDown, cM_found) = some out → W p l e ({ frames := 5, cells := 0, slots := 0, locals := 136 } : Room) s m args below meth c H locs 0 0 Q (F0 m 41 ls []) := by
        intro k41
        induction k41 with
        | zero => intro y2 y3 y5 y7 vM_up vM_down vM_sharesUp vM_sharesDown vM_onUp vM_onDown vM_great cM_path cM_comesUp cM_comesDown cM_found H locs ls hP hD hS hl h; cases h
        | succ k41 ih41 =>
          intro y2 y3 y5 y7 vM_up vM_down vM_sharesUp vM_sharesDown vM_onUp vM_onDown vM_great cM_path cM_comesUp cM_comesDown cM_found H locs ls hP hD hS hl h
          have h : f_X8_extreme_L41_b x1 cM_d (f_X8_extreme_L41 x1 cM_d k41) y2 y3 y5 y7 vM_up vM_down vM_sharesUp vM_sharesDown vM_onUp vM_onDown vM_great cM_path cM_comesUp cM_comesDown cM_found = some out := h
          unfold f_X8_extreme_L41_b at h
          refine lv_iload hx hb dX8_extreme_41 (lv_at hl 3 rfl) ?_
          refine lv_aload_n hx hb dX8_extreme_43 rfl (lv_at hl 4 rfl) ?_
          refine va_get (D := D) (ci := 7) (v := .ref aM_d) (C := RX8) (T := TX8) (N := 43) hx hb hts in_X8 hown hK hP 0 rfl rfl 0 (by decide) q1 (fun _ h9 => h9) rfl dX8_extreme_44 ?_
          refine lv_iconst (v := 0) hx hb dX8_extreme_47 (by decide) ?_
          refine va_iald hx hb hK hP 1 0 rfl rfl (by unfold vp_in; decide) dX8_extreme_48 ?_
          refine lv_icmp_ge (tgt := 127) hx hb dX8_extreme_49 (by decide) (fun c4 => ?_) (fun c4 => ?_)
          · have h := br_pos c4 h
            refine lv_iload_n hx hb dX8_extreme_127 rfl (lv_at hl 0 rfl) ?_
            obtain rfl := Option.some.inj h
            exact hret _ _ _ _ _ hP hD hS dX8_extreme_128 rfl rfl
          · have h := br_neg c4 h
            refine lv_aload_n hx hb dX8_extreme_52 rfl (lv_at hl 4 rfl) ?_
            refine lv_iload hx hb dX8_extreme_53 (lv_at hl 3 rfl) ?_
            obtain ⟨u5, hu5, h⟩ := bd_some h
            refine cl_Vi (rest := []) F hK hP hD hS hA hl (t_X8_isShare l D cyI cyJ cyZ cyB cyO aM aM_path aM_comesUp aM_comesDown aM_d aM_e aM_f aM_kept aM_found aM_tape aM_came aM_got aM_held aM_off aM_gets aM_gotNow aM_bitsOf aM_sizeOf aM_number aM_passing vM_isKept vM_taped vM_leaked vM_keptAll vM_offAll vM_up vM_down vM_sharesUp vM_sharesDown vM_onUp vM_onDown vM_great vM_triedOff vM_triedLeaked vM_triedKept vM_fitting vM_firstSet vM_inAll vM_inAny vM_at vM_sort vM_from vM_value vM_fault cM_path cM_comesUp cM_comesDown cM_d y7 u5 hu5) (cwV 1 hts gX8_extreme_X8_isShare rfl rfl rfl (by decide +kernel) ⟨Nat.le_of_ble_eq_true rfl, Nat.le_of_ble_eq_true rfl⟩) 0 [0, 2, 3, 4, 1] [1, 5, 2, 3, 4, 0] [] (w_X8_extreme cyI cyJ cyZ cyB cyO aM aM_d aM_path aM_comesUp aM_comesDown aM_found aM_e aM_f aM_kept aM_tape aM_came aM_got aM_held aM_off aM_gets aM_gotNow aM_bitsOf aM_sizeOf aM_number aM_passing vM_isKept vM_taped vM_leaked vM_keptAll vM_offAll u5.2.1 u5.2.2.1 u5.2.2.2.1 u5.2.2.2.2.1 u5.2.2.2.2.2.1 u5.2.2.2.2.2.2.1 u5.2.2.2.2.2.2.2.1 vM_triedOff vM_triedLeaked vM_triedKept vM_fitting vM_firstSet vM_inAll vM_inAny vM_at vM_sort vM_from vM_value vM_fault cM_d u5.2.2.2.2.2.2.2.2.1 u5.2.2.2.2.2.2.2.2.2.1 u5.2.2.2.2.2.2.2.2.2.2 cM_found) rfl rfl rfl rfl rfl (by decide +kernel) rfl rfl (Nat.le_of_ble_eq_true rfl) ⟨Nat.zero_le _, Nat.zero_le _⟩ dX8_extreme_55 (fun H locs hP hD hS => ?_)
            refine lv_if_ne (tgt := 68) hx hb dX8_extreme_58 (by decide) (fun c6 => ?_) (fun c6 => ?_)
            · have h := br_neg c6 h
              refine lv_iload_n hx hb dX8_extreme_68 rfl (lv_at hl 0 rfl) ?_
              have j100 : ∀ (y2 : Int32) (y3 : Int64) (y5 : Int64) (y7 : Int32) (t0 : Int32) (vM_up : Int64) (vM_down : Int64) (vM_sharesUp : Int64) (vM_sharesDown : Int64) (vM_onUp : Int64) (vM_onDown : Int64) (vM_great : Int32) (cM_path : Nat → Int32) (cM_comesUp : Nat → Int64) (cM_comesDown : Nat → Int64) (cM_found : Nat → Int32) (H : Heap) (locs : List Loc) (ls : Array Slot), va_P D vwCl (w_X8_extreme cyI cyJ cyZ cyB cyO aM aM_d aM_path aM_comesUp aM_comesDown aM_found aM_e aM_f aM_kept aM_tape aM_came aM_got aM_held aM_off aM_gets aM_gotNow aM_bitsOf aM_sizeOf aM_number aM_passing vM_isKept vM_taped vM_leaked vM_keptAll vM_offAll vM_up vM_down vM_sharesUp vM_sharesDown vM_onUp vM_onDown vM_great vM_triedOff vM_triedLeaked vM_triedKept vM_fitting vM_firstSet vM_inAll vM_inAny vM_at vM_sort vM_from vM_value vM_fault cM_d cM_path cM_comesUp cM_comesDown cM_found) H → va_D A (w_X8_extreme cyI cyJ cyZ cyB cyO aM aM_d aM_path aM_comesUp aM_comesDown aM_found aM_e aM_f aM_kept aM_tape aM_came aM_got aM_held aM_off aM_gets aM_gotNow aM_bitsOf aM_sizeOf aM_number aM_passing vM_isKept vM_taped vM_leaked vM_keptAll vM_offAll vM_up vM_down vM_sharesUp vM_sharesDown vM_onUp vM_onDown vM_great vM_triedOff vM_triedLeaked vM_triedKept vM_fitting vM_firstSet vM_inAll vM_inAny vM_at vM_sort vM_from vM_value vM_fault cM_d cM_path cM_comesUp cM_comesDown cM_found) → va_S A s.heap H locs → lv_has ls 9 [(2, .int y2), (3, .long y3), (5, .long y5), (7, .int y7), (0, .ref aM), (1, .int x1)] → f_X8_extreme_J100 x1 cM_d (f_X8_extreme_L41 x1 cM_d k41) y2 y3 y5 y7 t0 vM_up vM_down vM_sharesUp vM_sharesDown vM_onUp vM_onDown vM_great cM_path cM_comesUp cM_comesDown cM_found = some out → W p l e ({ frames := 5, cells := 0, slots := 0, locals := 136 } : Room) s m args below meth c H locs 0 0 Q (F0 m 100 ls [.int t0]) := by
                intro y2 y3 y5 y7 t0 vM_up vM_down vM_sharesUp vM_sharesDown vM_onUp vM_onDown vM_great cM_path cM_comesUp cM_comesDown cM_found H locs ls hP hD hS hl h
                unfold f_X8_extreme_J100 at h
                refine lv_istore (lv' := [(8, .int t0), (2, .int y2), (3, .long y3), (5, .long y5), (7, .int y7), (0, .ref aM), (1, .int x1)]) hx hb dX8_extreme_100 hl (by decide) rfl (fun ls hl => ?_)
                refine lv_iload hx hb dX8_extreme_102 (lv_at hl 0 rfl) ?_
                refine lv_if_le (tgt := 121) hx hb dX8_extreme_104 (by decide) (fun c7 => ?_) (fun c7 => ?_)
                · have h := br_pos c7 h
                  refine lv_iinc (v := y7 + 1) (lv' := [(7, .int (y7 + 1)), (8, .int t0), (2, .int y2), (3, .long y3), (5, .long y5), (0, .ref aM), (1, .int x1)]) hx hb dX8_extreme_121 hl (k := 4) rfl rfl (by decide) rfl (fun ls hl => ?_)
                  refine lv_goto (tgt := 41) hx hb dX8_extreme_124 (by decide) ?_
                  exact ih41 y2 y3 y5 (y7 + 1) vM_up vM_down vM_sharesUp vM_sharesDown vM_onUp vM_onDown vM_great cM_path cM_comesUp cM_comesDown cM_found _ _ _ hP hD hS (lv_sub hl [2, 3, 4, 0, 5, 6] rfl) h
                · have h := br_neg c7 h
                  refine lv_iload hx hb dX8_extreme_107 (lv_at hl 4 rfl) ?_
                  refine lv_istore_n (lv' := [(2, .int y7), (8, .int t0), (3, .long y3), (5, .long y5), (7, .int y7), (0, .ref aM), (1, .int x1)]) hx hb dX8_extreme_109 rfl hl (by decide) rfl (fun ls hl => ?_)
                  refine lv_aload_n hx hb dX8_extreme_110 rfl (lv_at hl 5 rfl) ?_
                  refine va_get (D := D) (ci := 7) (v := .long vM_sharesUp) (C := RX8) (T := TX8) (N := 43) hx hb hts in_X8 hown hK hP 0 rfl rfl 19 (by decide) q2 (fun _ h9 => h9) rfl dX8_extreme_111 ?_
                  refine lv_lstore_n (lv' := [(3, .long vM_sharesUp), (2, .int y7), (8, .int t0), (5, .long y5), (7, .int y7), (0, .ref aM), (1, .int x1)]) hx hb dX8_extreme_114 rfl hl (by decide) rfl (fun ls hl => ?_)
                  refine lv_aload_n hx hb dX8_extreme_115 rfl (lv_at hl 5 rfl) ?_
                  refine va_get (D := D) (ci := 7) (v := .long vM_sharesDown) (C := RX8) (T := TX8) (N := 43) hx hb hts in_X8 hown hK hP 0 rfl rfl 20 (by decide) q3 (fun _ h9 => h9) rfl dX8_extreme_116 ?_
                  refine lv_lstore (lv' := [(5, .long vM_sharesDown), (3, .long vM_sharesUp), (2, .int y7), (8, .int t0), (7, .int y7), (0, .ref aM), (1, .int x1)]) hx hb dX8_extreme_119 hl (by decide) rfl (fun ls hl => ?_)
                  refine lv_iinc (v := y7 + 1) (lv' := [(7, .int (y7 + 1)), (5, .long vM_sharesDown), (3, .long vM_sharesUp), (2, .int y7), (8, .int t0), (0, .ref aM), (1, .int x1)]) hx hb dX8_extreme_121 hl (k := 4) rfl rfl (by decide) rfl (fun ls hl => ?_)
                  refine lv_goto (tgt := 41) hx hb dX8_extreme_124 (by decide) ?_
                  exact ih41 y7 vM_sharesUp vM_sharesDown (y7 + 1) vM_up vM_down vM_sharesUp vM_sharesDown vM_onUp vM_onDown vM_great cM_path cM_comesUp cM_comesDown cM_found _ _ _ hP hD hS (lv_sub hl [3, 2, 1, 0, 5, 6] rfl) h
              refine lv_if_ge (tgt := 76) hx hb dX8_extreme_69 (by decide) (fun c8 => ?_) (fun c8 => ?_)
              · have h := br_pos c8 h
                refine lv_aload_n hx hb dX8_extreme_76 rfl (lv_at hl 4 rfl) ?_
                refine va_get (D := D) (ci := 7) (v := .long u5.2.2.2.1) (C := RX8) (T := TX8) (N := 43) hx hb hts in_X8 hown hK hP 0 rfl rfl 19 (by decide) q2 (fun _ h9 => h9) rfl dX8_extreme_77 ?_
                refine lv_aload_n hx hb dX8_extreme_80 rfl (lv_at hl 4 rfl) ?_
                refine va_get (D := D) (ci := 7) (v := .long u5.2.2.2.2.1) (C := RX8) (T := TX8) (N := 43) hx hb hts in_X8 hown hK hP 0 rfl rfl 20 (by decide) q3 (fun _ h9 => h9) rfl dX8_extreme_81 ?_
                refine lv_lload_n hx hb dX8_extreme_84 rfl (lv_at hl 1 rfl) ?_
                refine lv_lload hx hb dX8_extreme_85 (lv_at hl 2 rfl) ?_
                obtain ⟨u9, hu9, h⟩ := bd_some h
                refine cl_Si (rest := []) F hK hP hD hS hA hl (t_X8_order l D cyI cyJ cyZ cyB cyO u5.2.2.2.1 u5.2.2.2.2.1 y3 y5 u9 hu9) (va_cwS 4 hts gX8_extreme_X8_order rfl rfl rfl (by decide +kernel) ⟨Nat.le_of_ble_eq_true rfl, Nat.le_of_ble_eq_true rfl⟩) [] [0, 0, 0, 0, 0, 0] [] (w_X8_extreme cyI cyJ cyZ cyB cyO aM aM_d aM_path aM_comesUp aM_comesDown aM_found aM_e aM_f aM_kept aM_tape aM_came aM_got aM_held aM_off aM_gets aM_gotNow aM_bitsOf aM_sizeOf aM_number aM_passing vM_isKept vM_taped vM_leaked vM_keptAll vM_offAll u5.2.1 u5.2.2.1 u5.2.2.2.1 u5.2.2.2.2.1 u5.2.2.2.2.2.1 u5.2.2.2.2.2.2.1 u5.2.2.2.2.2.2.2.1 vM_triedOff vM_triedLeaked vM_triedKept vM_fitting vM_firstSet vM_inAll vM_inAny vM_at vM_sort vM_from vM_value vM_fault cM_d u5.2.2.2.2.2.2.2.2.1 u5.2.2.2.2.2.2.2.2.2.1 u5.2.2.2.2.2.2.2.2.2.2 cM_found) rfl rfl rfl (by decide +kernel) rfl rfl (Nat.le_of_ble_eq_true rfl) ⟨Nat.zero_le _, Nat.zero_le _⟩ dX8_extreme_87 (fun H locs hP hD hS => ?_)
                refine lv_iload_n hx hb dX8_extreme_90 rfl (lv_at hl 5 rfl) ?_
                refine lv_if_ne (tgt := 98) hx hb dX8_extreme_91 (by decide) (fun c10 => ?_) (fun c10 => ?_)
                · have h := br_neg c10 h
                  refine lv_iconst (v := -1) hx hb dX8_extreme_98 (by decide) ?_
                  refine lv_imul hx hb dX8_extreme_99 ?_
                  exact j100 y2 y3 y5 y7 (u9 * (-1 : Int32)) u5.2.1 u5.2.2.1 u5.2.2.2.1 u5.2.2.2.2.1 u5.2.2.2.2.2.1 u5.2.2.2.2.2.2.1 u5.2.2.2.2.2.2.2.1 u5.2.2.2.2.2.2.2.2.1 u5.2.2.2.2.2.2.2.2.2.1 u5.2.2.2.2.2.2.2.2.2.2 cM_found _ _ _ hP hD hS (lv_sub hl [0, 1, 2, 3, 4, 5] rfl) h
                · have h := br_pos c10 h
                  refine lv_iconst (v := 1) hx hb dX8_extreme_94 (by decide) ?_
                  refine lv_goto (tgt := 99) hx hb dX8_extreme_95 (by decide) ?_
                  refine lv_imul hx hb dX8_extreme_99 ?_
                  exact j100 y2 y3 y5 y7 (u9 * (1 : Int32)) u5.2.1 u5.2.2.1 u5.2.2.2.1 u5.2.2.2.2.1 u5.2.2.2.2.2.1 u5.2.2.2.2.2.2.1 u5.2.2.2.2.2.2.2.1 u5.2.2.2.2.2.2.2.2.1 u5.2.2.2.2.2.2.2.2.2.1 u5.2.2.2.2.2.2.2.2.2.2 cM_found _ _ _ hP hD hS (lv_sub hl [0, 1, 2, 3, 4, 5] rfl) h
              · have h := br_neg c8 h
                refine lv_iconst (v := 1) hx hb dX8_extreme_72 (by decide) ?_
                refine lv_goto (tgt := 100) hx hb dX8_extreme_73 (by decide) ?_
                exact j100 y2 y3 y5 y7 (1 : Int32) u5.2.1 u5.2.2.1 u5.2.2.2.1 u5.2.2.2.2.1 u5.2.2.2.2.2.1 u5.2.2.2.2.2.2.1 u5.2.2.2.2.2.2.2.1 u5.2.2.2.2.2.2.2.2.1 u5.2.2.2.2.2.2.2.2.2.1 u5.2.2.2.2.2.2.2.2.2.2 cM_found _ _ _ hP hD hS (lv_sub hl [0, 1, 2, 3, 4, 5] rfl) h
            · have h := br_pos c6 h
              refine lv_aload_n hx hb dX8_extreme_61 rfl (lv_at hl 4 rfl) ?_
              refine lv_bipush (v := 6) hx hb dX8_extreme_62 (by decide) ?_
              obtain ⟨u11, hu11, h⟩ := bd_some h
              refine cl_Vi (rest := []) F hK hP hD hS hA hl (t_X8_finds l D cyI cyJ cyZ cyB cyO aM aM_found aM_d aM_e aM_f aM_kept aM_tape aM_came aM_got aM_held aM_off aM_comesUp aM_comesDown aM_path aM_gets aM_gotNow aM_bitsOf aM_sizeOf aM_number aM_passing vM_isKept vM_taped vM_leaked vM_keptAll vM_offAll u5.2.1 u5.2.2.1 u5.2.2.2.1 u5.2.2.2.2.1 u5.2.2.2.2.2.1 u5.2.2.2.2.2.2.1 u5.2.2.2.2.2.2.2.1 vM_triedOff vM_triedLeaked vM_triedKept vM_fitting vM_firstSet vM_inAll vM_inAny vM_at vM_sort vM_from vM_value vM_fault cM_found (6 : Int32) u11 hu11) (cwV 1 hts gX8_extreme_X8_finds rfl rfl rfl (by decide +kernel) ⟨Nat.le_of_ble_eq_true rfl, Nat.le_of_ble_eq_true rfl⟩) 0 [0, 5] [1, 0, 0, 0, 0, 2] [] (w_X8_extreme cyI cyJ cyZ cyB cyO aM aM_d aM_path aM_comesUp aM_comesDown aM_found aM_e aM_f aM_kept aM_tape aM_came aM_got aM_held aM_off aM_gets aM_gotNow aM_bitsOf aM_sizeOf aM_number aM_passing vM_isKept vM_taped vM_leaked vM_keptAll vM_offAll u5.2.1 u5.2.2.1 u5.2.2.2.1 u5.2.2.2.2.1 u5.2.2.2.2.2.1 u5.2.2.2.2.2.2.1 u5.2.2.2.2.2.2.2.1 vM_triedOff vM_triedLeaked vM_triedKept vM_fitting vM_firstSet vM_inAll vM_inAny vM_at vM_sort vM_from vM_value vM_fault cM_d u5.2.2.2.2.2.2.2.2.1 u5.2.2.2.2.2.2.2.2.2.1 u5.2.2.2.2.2.2.2.2.2.2 u11.2) rfl rfl rfl rfl rfl (by decide +kernel) rfl rfl (Nat.le_of_ble_eq_true rfl) ⟨Nat.zero_le _, Nat.zero_le _⟩ dX8_extreme_64 (fun H locs hP hD hS => ?_)
              obtain rfl := Option.some.inj h
              exact hret _ _ _ _ _ hP hD hS dX8_extreme_67 rfl rfl
      exact lp41 FU (-1 : Int32) (0 : Int64) (1 : Int64) (0 : Int32) vM_up vM_down vM_sharesUp vM_sharesDown vM_onUp vM_onDown vM_great cM_path cM_comesUp cM_comesDown cM_found _ _ _ hP hD hS (lv_sub hl [3, 2, 1, 0, 4, 5] rfl) h
    · have h := br_pos c3 h
      refine lv_aload_n hx hb dX8_extreme_25 rfl (lv_at hl 0 rfl) ?_
      refine lv_iconst (v := 3) hx hb dX8_extreme_26 (by decide) ?_
      obtain ⟨u12, hu12, h⟩ := bd_some h
      refine cl_Vi (rest := []) F hK hP hD hS hA hl (t_X8_finds l D cyI cyJ cyZ cyB cyO aM aM_found aM_d aM_e aM_f aM_kept aM_tape aM_came aM_got aM_held aM_off aM_comesUp aM_comesDown aM_path aM_gets aM_gotNow aM_bitsOf aM_sizeOf aM_number aM_passing vM_isKept vM_taped vM_leaked vM_keptAll vM_offAll vM_up vM_down vM_sharesUp vM_sharesDown vM_onUp vM_onDown vM_great vM_triedOff vM_triedLeaked vM_triedKept vM_fitting vM_firstSet vM_inAll vM_inAny vM_at vM_sort vM_from vM_value vM_fault cM_found (3 : Int32) u12 hu12) (cwV 1 hts gX8_extreme_X8_finds rfl rfl rfl (by decide +kernel) ⟨Nat.le_of_ble_eq_true rfl, Nat.le_of_ble_eq_true rfl⟩) 0 [0, 5] [1, 0, 0, 0, 0, 2] [] (w_X8_extreme cyI cyJ cyZ cyB cyO aM aM_d aM_path aM_comesUp aM_comesDown aM_found aM_e aM_f aM_kept aM_tape aM_came aM_got aM_held aM_off aM_gets aM_gotNow aM_bitsOf aM_sizeOf aM_number aM_passing vM_isKept vM_taped vM_leaked vM_keptAll vM_offAll vM_up vM_down vM_sharesUp vM_sharesDown vM_onUp vM_onDown vM_great vM_triedOff vM_triedLeaked vM_triedKept vM_fitting vM_firstSet vM_inAll vM_inAny vM_at vM_sort vM_from vM_value vM_fault cM_d cM_path cM_comesUp cM_comesDown u12.2) rfl rfl rfl rfl rfl (by decide +kernel) rfl rfl (Nat.le_of_ble_eq_true rfl) ⟨Nat.zero_le _, Nat.zero_le _⟩ dX8_extreme_27 (fun H locs hP hD hS => ?_)
      obtain rfl := Option.some.inj h
      exact hret _ _ _ _ _ hP hD hS dX8_extreme_30 rfl rfl
  · have h := br_pos c2 h
    refine lv_aload_n hx hb dX8_extreme_10 rfl (lv_at hl 0 rfl) ?_
    refine lv_iconst (v := 0) hx hb dX8_extreme_11 (by decide) ?_
    obtain ⟨u13, hu13, h⟩ := bd_some h
    refine cl_Vi (rest := []) F hK hP hD hS hA hl (t_X8_finds l D cyI cyJ cyZ cyB cyO aM aM_found aM_d aM_e aM_f aM_kept aM_tape aM_came aM_got aM_held aM_off aM_comesUp aM_comesDown aM_path aM_gets aM_gotNow aM_bitsOf aM_sizeOf aM_number aM_passing vM_isKept vM_taped vM_leaked vM_keptAll vM_offAll vM_up vM_down vM_sharesUp vM_sharesDown vM_onUp vM_onDown vM_great vM_triedOff vM_triedLeaked vM_triedKept vM_fitting vM_firstSet vM_inAll vM_inAny vM_at vM_sort vM_from vM_value vM_fault cM_found (0 : Int32) u13 hu13) (cwV 1 hts gX8_extreme_X8_finds rfl rfl rfl (by decide +kernel) ⟨Nat.le_of_ble_eq_true rfl, Nat.le_of_ble_eq_true rfl⟩) 0 [0, 5] [1, 0, 0, 0, 0, 2] [] (w_X8_extreme cyI cyJ cyZ cyB cyO aM aM_d aM_path aM_comesUp aM_comesDown aM_found aM_e aM_f aM_kept aM_tape aM_came aM_got aM_held aM_off aM_gets aM_gotNow aM_bitsOf aM_sizeOf aM_number aM_passing vM_isKept vM_taped vM_leaked vM_keptAll vM_offAll vM_up vM_down vM_sharesUp vM_sharesDown vM_onUp vM_onDown vM_great vM_triedOff vM_triedLeaked vM_triedKept vM_fitting vM_firstSet vM_inAll vM_inAny vM_at vM_sort vM_from vM_value vM_fault cM_d cM_path cM_comesUp cM_comesDown u13.2) rfl rfl rfl rfl rfl (by decide +kernel) rfl rfl (Nat.le_of_ble_eq_true rfl) ⟨Nat.zero_le _, Nat.zero_le _⟩ dX8_extreme_12 (fun H locs hP hD hS => ?_)
    obtain rfl := Option.some.inj h
    exact hret _ _ _ _ _ hP hD hS dX8_extreme_15 rfl rfl
/-! ===== X8_isAllKept ===== -/
def w_X8_isAllKept (cyI cyJ cyZ cyB cyO : ClassId) (aM aM_d aM_came aM_got aM_held aM_off aM_e aM_f aM_kept aM_found aM_tape aM_comesUp aM_comesDown aM_path aM_gets aM_gotNow aM_bitsOf aM_sizeOf aM_number aM_passing : Nat) (vM_isKept : Int32) (vM_taped : Int32) (vM_leaked : Int32) (vM_keptAll : Int32) (vM_offAll : Int32) (vM_up : Int64) (vM_down : Int64) (vM_sharesUp : Int64) (vM_sharesDown : Int64) (vM_onUp : Int64) (vM_onDown : Int64) (vM_great : Int32) (vM_triedOff : Int32) (vM_triedLeaked : Int32) (vM_triedKept : Int32) (vM_fitting : Int32) (vM_firstSet : Int32) (vM_inAll : Int32) (vM_inAny : Int32) (vM_at : Int32) (vM_sort : Int32) (vM_from : Int32) (vM_value : Int64) (vM_fault : Int32) (cM_d : Nat → Int32) (cM_came : Nat → Int32) (cM_got : Nat → Int32) (cM_held : Nat → Int32) (cM_off : Nat → Int32) : va_W := [(aM, .inr (7, [.ref aM_d, .ref aM_e, .ref aM_f, .ref aM_kept, .int vM_isKept, .ref aM_found, .ref aM_tape, .int vM_taped, .ref aM_came, .ref aM_got, .ref aM_held, .ref aM_off, .int vM_leaked, .int vM_keptAll, .int vM_offAll, .ref aM_comesUp, .ref aM_comesDown, .long vM_up, .long vM_down, .long vM_sharesUp, .long vM_sharesDown, .long vM_onUp, .long vM_onDown, .int vM_great, .ref aM_path, .ref aM_gets, .int vM_triedOff, .int vM_triedLeaked, .int vM_triedKept, .ref aM_gotNow, .int vM_fitting, .int vM_firstSet, .int vM_inAll, .int vM_inAny, .int vM_at, .int vM_sort, .int vM_from, .long vM_value, .int vM_fault, .ref aM_bitsOf, .ref aM_sizeOf, .ref aM_number, .ref aM_passing])), (aM_d, .inl (cyI, 64, .inl cM_d)), (aM_came, .inl (cyI, 10, .inl cM_came)), (aM_got, .inl (cyI, 10, .inl cM_got)), (aM_held, .inl (cyI, 10, .inl cM_held)), (aM_off, .inl (cyI, 10, .inl cM_off))]
set_option maxHeartbeats 4000000 in
set_option maxRecDepth 100000 in
theorem t_X8_isAllKept (l : Launch) (D : va_G) (cyI cyJ cyZ cyB cyO : ClassId) (aM aM_d aM_came aM_got aM_held aM_off aM_e aM_f aM_kept aM_found aM_tape aM_comesUp aM_comesDown aM_path aM_gets aM_gotNow aM_bitsOf aM_sizeOf aM_number aM_passing : Nat) (vM_isKept : Int32) (vM_taped : Int32) (vM_leaked : Int32) (vM_keptAll : Int32) (vM_offAll : Int32) (vM_up : Int64) (vM_down : Int64) (vM_sharesUp : Int64) (vM_sharesDown : Int64) (vM_onUp : Int64) (vM_onDown : Int64) (vM_great : Int32) (vM_triedOff : Int32) (vM_triedLeaked : Int32) (vM_triedKept : Int32) (vM_fitting : Int32) (vM_firstSet : Int32) (vM_inAll : Int32) (vM_inAny : Int32) (vM_at : Int32) (vM_sort : Int32) (vM_from : Int32) (vM_value : Int64) (vM_fault : Int32) (cM_d : Nat → Int32) (cM_came : Nat → Int32) (cM_got : Nat → Int32) (cM_held : Nat → Int32) (cM_off : Nat → Int32) (x1 : Int32) (out : Int32 × Int32 × Int32 × Int32 × (Nat → Int32) × (Nat → Int32) × (Nat → Int32) × (Nat → Int32)) (h : f_X8_isAllKept x1 vM_leaked vM_keptAll vM_offAll cM_d cM_came cM_got cM_held cM_off = some out) : Mi l yX8_isAllKept wsX8_isAllKept ({ frames := 3, cells := 0, slots := 0, locals := 74 } : Room) D (tyA cyI cyJ cyZ cyB cyO) [.ref aM, .int x1] (w_X8_isAllKept cyI cyJ cyZ cyB cyO aM aM_d aM_came aM_got aM_held aM_off aM_e aM_f aM_kept aM_found aM_tape aM_comesUp aM_comesDown aM_path aM_gets aM_gotNow aM_bitsOf aM_sizeOf aM_number aM_passing vM_isKept vM_taped vM_leaked vM_keptAll vM_offAll vM_up vM_down vM_sharesUp vM_sharesDown vM_onUp vM_onDown vM_great vM_triedOff vM_triedLeaked vM_triedKept vM_fitting vM_firstSet vM_inAll vM_inAny vM_at vM_sort vM_from vM_value vM_fault cM_d cM_came cM_got cM_held cM_off) (w_X8_isAllKept cyI cyJ cyZ cyB cyO aM aM_d aM_came aM_got aM_held aM_off aM_e aM_f aM_kept aM_found aM_tape aM_comesUp aM_comesDown aM_path aM_gets aM_gotNow aM_bitsOf aM_sizeOf aM_number aM_passing vM_isKept vM_taped out.2.1 out.2.2.1 out.2.2.2.1 vM_up vM_down vM_sharesUp vM_sharesDown vM_onUp vM_onDown vM_great vM_triedOff vM_triedLeaked vM_triedKept vM_fitting vM_firstSet vM_inAll vM_inAny vM_at vM_sort vM_from vM_value vM_fault cM_d out.2.2.2.2.1 out.2.2.2.2.2.1 out.2.2.2.2.2.2.1 out.2.2.2.2.2.2.2) out.1 := by
  refine Mi.mk (cc := cX8_isAllKept) (maxL := 3) (rt := .boolean) (own := RX8) (by decide) rfl rfl (Nat.le_of_ble_eq_true rfl) ?_
  intro p e s m args below meth c A Q F hK hP hD hA hret ls hl
  obtain ⟨hx, hb, hml, hown, hts⟩ := id F
  have hS : va_S A s.heap s.heap [] := va_S.rf
  have hl : lv_has ls 3 [(0, .ref aM), (1, .int x1)] := hl
  have in_X8 : ∀ w ∈ wsX80, w ∈ wsX8_isAllKept := by decide +kernel
  have q3 := hts (Cond.methodLink RX8 102 yX8_look) (List.mem_of_getElem? (i := 3) rfl)
  have q1 := hts (Cond.fieldLink RX8 7 "ThirdFountainModel" "d" "[I") (List.mem_of_getElem? (i := 1) rfl)
  have q2 := hts (Cond.fieldLink RX8 32 "ThirdFountainModel" "got" "[I") (List.mem_of_getElem? (i := 2) rfl)
  unfold f_X8_isAllKept at h
  refine lv_aload_n hx hb dX8_isAllKept_0 rfl (lv_at hl 0 rfl) ?_
  obtain ⟨u1, hu1, h⟩ := bd_some h
  refine cl_Vv (rest := []) F hK hP hD hS hA hl (t_X8_look l D cyI cyJ cyZ cyB cyO aM aM_d aM_came aM_got aM_held aM_off aM_e aM_f aM_kept aM_found aM_tape aM_comesUp aM_comesDown aM_path aM_gets aM_gotNow aM_bitsOf aM_sizeOf aM_number aM_passing vM_isKept vM_taped vM_leaked vM_keptAll vM_offAll vM_up vM_down vM_sharesUp vM_sharesDown vM_onUp vM_onDown vM_great vM_triedOff vM_triedLeaked vM_triedKept vM_fitting vM_firstSet vM_inAll vM_inAny vM_at vM_sort vM_from vM_value vM_fault cM_d cM_came cM_got cM_held cM_off u1 hu1) (cwV 0 hts gX8_isAllKept_X8_look rfl rfl rfl (by decide +kernel) ⟨Nat.le_of_ble_eq_true rfl, Nat.le_of_ble_eq_true rfl⟩) 0 [0, 1, 2, 3, 4, 5] [1, 2, 3, 4, 5, 6] [] (w_X8_isAllKept cyI cyJ cyZ cyB cyO aM aM_d aM_came aM_got aM_held aM_off aM_e aM_f aM_kept aM_found aM_tape aM_comesUp aM_comesDown aM_path aM_gets aM_gotNow aM_bitsOf aM_sizeOf aM_number aM_passing vM_isKept vM_taped u1.1 u1.2.1 u1.2.2.1 vM_up vM_down vM_sharesUp vM_sharesDown vM_onUp vM_onDown vM_great vM_triedOff vM_triedLeaked vM_triedKept vM_fitting vM_firstSet vM_inAll vM_inAny vM_at vM_sort vM_from vM_value vM_fault cM_d u1.2.2.2.1 u1.2.2.2.2.1 u1.2.2.2.2.2.1 u1.2.2.2.2.2.2) rfl rfl rfl rfl rfl (by decide +kernel) rfl rfl (Nat.le_of_ble_eq_true rfl) ⟨Nat.zero_le _, Nat.zero_le _⟩ dX8_isAllKept_1 (fun H locs hP hD hS => ?_)
  refine lv_iconst (v := 0) hx hb dX8_isAllKept_4 (by decide) ?_
  refine lv_istore_n (lv' := [(2, .int (0 : Int32)), (0, .ref aM), (1, .int x1)]) hx hb dX8_isAllKept_5 rfl hl (by decide) rfl (fun ls hl => ?_)
  have lp6 : ∀ (k6 : Nat) (y2 : Int32) (vM_leaked : Int32) (vM_keptAll : Int32) (vM_offAll : Int32) (cM_came : Nat → Int32) (cM_got : Nat → Int32) (cM_held : Nat → Int32) (cM_off : Nat → Int32) (H : Heap) (locs : List Loc) (ls : Array Slot), va_P D vwCl (w_X8_isAllKept cyI cyJ cyZ cyB cyO aM aM_d aM_came aM_got aM_held aM_off aM_e aM_f aM_kept aM_found aM_tape aM_comesUp aM_comesDown aM_path aM_gets aM_gotNow aM_bitsOf aM_sizeOf aM_number aM_passing vM_isKept vM_taped vM_leaked vM_keptAll vM_offAll vM_up vM_down vM_sharesUp vM_sharesDown vM_onUp vM_onDown vM_great vM_triedOff vM_triedLeaked vM_triedKept vM_fitting vM_firstSet vM_inAll vM_inAny vM_at vM_sort vM_from vM_value vM_fault cM_d cM_came cM_got cM_held cM_off) H → va_D A (w_X8_isAllKept cyI cyJ cyZ cyB cyO aM aM_d aM_came aM_got aM_held aM_off aM_e aM_f aM_kept aM_found aM_tape aM_comesUp aM_comesDown aM_path aM_gets aM_gotNow aM_bitsOf aM_sizeOf aM_number aM_passing vM_isKept vM_taped vM_leaked vM_keptAll vM_offAll vM_up vM_down vM_sharesUp vM_sharesDown vM_onUp vM_onDown vM_great vM_triedOff vM_triedLeaked vM_triedKept vM_fitting vM_firstSet vM_inAll vM_inAny vM_at vM_sort vM_from vM_value vM_fault cM_d cM_came cM_got cM_held cM_off) → va_S A s.heap H locs → lv_has ls 3 [(2, .int y2), (0, .ref aM), (1, .int x1)] → (f_X8_isAllKept_L6 x1 cM_d k6) (y2, vM_leaked, vM_keptAll, vM_offAll, cM_came, cM_got, cM_held, cM_off) = some out → W p l e ({ frames := 3, cells := 0, slots := 0, locals := 74 } : Room) s m args below meth c H locs 0 0 Q (F0 m 6 ls []) := by
    intro k6
    induction k6 with
    | zero => intro y2 vM_leaked vM_keptAll vM_offAll cM_came cM_got cM_held cM_off H locs ls hP hD hS hl h; cases h
    | succ k6 ih6 =>
      intro y2 vM_leaked vM_keptAll vM_offAll cM_came cM_got cM_held cM_off H locs ls hP hD hS hl h
      have h : f_X8_isAllKept_L6_b x1 cM_d (f_X8_isAllKept_L6 x1 cM_d k6) y2 vM_leaked vM_keptAll vM_offAll cM_came cM_got cM_held cM_off = some out := h
      unfold f_X8_isAllKept_L6_b at h
      refine lv_iload_n hx hb dX8_isAllKept_6 rfl (lv_at hl 0 rfl) ?_
      refine lv_aload_n hx hb dX8_isAllKept_7 rfl (lv_at hl 1 rfl) ?_
      refine va_get (D := D) (ci := 7) (v := .ref aM_d) (C := RX8) (T := TX8) (N := 43) hx hb hts in_X8 hown hK hP 0 rfl rfl 0 (by decide) q1 (fun _ h9 => h9) rfl dX8_isAllKept_8 ?_
      refine lv_iconst (v := 0) hx hb dX8_isAllKept_11 (by decide) ?_
      refine va_iald hx hb hK hP 1 0 rfl rfl (by unfold vp_in; decide) dX8_isAllKept_12 ?_
      refine lv_icmp_ge (tgt := 34) hx hb dX8_isAllKept_13 (by decide) (fun c2 => ?_) (fun c2 => ?_)
      · have h := br_pos c2 h
        refine lv_iconst (v := 1) hx hb dX8_isAllKept_34 (by decide) ?_
        obtain rfl := Option.some.inj h
        exact hret _ _ _ _ _ hP hD hS dX8_isAllKept_35 (nz_of (Or.inr rfl)) rfl
      · have h := br_neg c2 h
        refine lv_aload_n hx hb dX8_isAllKept_16 rfl (lv_at hl 1 rfl) ?_
        refine va_get (D := D) (ci := 7) (v := .ref aM_got) (C := RX8) (T := TX8) (N := 43) hx hb hts in_X8 hown hK hP 0 rfl rfl 9 (by decide) q2 (fun _ h9 => h9) rfl dX8_isAllKept_17 ?_
        refine lv_iload_n hx hb dX8_isAllKept_20 rfl (lv_at hl 0 rfl) ?_
        obtain ⟨g3, h⟩ := gd_some h
        refine va_iald hx hb hK hP 3 0 rfl rfl g3 dX8_isAllKept_21 ?_
        refine lv_iload_n hx hb dX8_isAllKept_22 rfl (lv_at hl 2 rfl) ?_
        refine lv_icmp_ge (tgt := 28) hx hb dX8_isAllKept_23 (by decide) (fun c4 => ?_) (fun c4 => ?_)
        · have h := br_pos c4 h
          refine lv_iinc (v := y2 + 1) (lv' := [(2, .int (y2 + 1)), (0, .ref aM), (1, .int x1)]) hx hb dX8_isAllKept_28 hl (k := 0) rfl rfl (by decide) rfl (fun ls hl => ?_)
          refine lv_goto (tgt := 6) hx hb dX8_isAllKept_31 (by decide) ?_
          exact ih6 (y2 + 1) vM_leaked vM_keptAll vM_offAll cM_came cM_got cM_held cM_off _ _ _ hP hD hS (lv_sub hl [0, 1, 2] rfl) h
        · have h := br_neg c4 h
          refine lv_iconst (v := 0) hx hb dX8_isAllKept_26 (by decide) ?_
          obtain rfl := Option.some.inj h
          exact hret _ _ _ _ _ hP hD hS dX8_isAllKept_27 (nz_of (Or.inl rfl)) rfl
  exact lp6 FU (0 : Int32) u1.1 u1.2.1 u1.2.2.1 u1.2.2.2.1 u1.2.2.2.2.1 u1.2.2.2.2.2.1 u1.2.2.2.2.2.2 _ _ _ hP hD hS (lv_sub hl [0, 1, 2] rfl) h
/-! ===== X8_needs ===== -/
def w_X8_needs (cyI cyJ cyZ cyB cyO : ClassId) (aM aM_d aM_e aM_came aM_got aM_held aM_off aM_found aM_f aM_kept aM_tape aM_comesUp aM_comesDown aM_path aM_gets aM_gotNow aM_bitsOf aM_sizeOf aM_number aM_passing : Nat) (vM_isKept : Int32) (vM_taped : Int32) (vM_leaked : Int32) (vM_keptAll : Int32) (vM_offAll : Int32) (vM_up : Int64) (vM_down : Int64) (vM_sharesUp : Int64) (vM_sharesDown : Int64) (vM_onUp : Int64) (vM_onDown : Int64) (vM_great : Int32) (vM_triedOff : Int32) (vM_triedLeaked : Int32) (vM_triedKept : Int32) (vM_fitting : Int32) (vM_firstSet : Int32) (vM_inAll : Int32) (vM_inAny : Int32) (vM_at : Int32) (vM_sort : Int32) (vM_from : Int32) (vM_value : Int64) (vM_fault : Int32) (cM_d : Nat → Int32) (cM_e : Nat → Int32) (cM_came : Nat → Int32) (cM_got : Nat → Int32) (cM_held : Nat → Int32) (cM_off : Nat → Int32) (cM_found : Nat → Int32) : va_W := [(aM, .inr (7, [.ref aM_d, .ref aM_e, .ref aM_f, .ref aM_kept, .int vM_isKept, .ref aM_found, .ref aM_tape, .int vM_taped, .ref aM_came, .ref aM_got, .ref aM_held, .ref aM_off, .int vM_leaked, .int vM_keptAll, .int vM_offAll, .ref aM_comesUp, .ref aM_comesDown, .long vM_up, .long vM_down, .long vM_sharesUp, .long vM_sharesDown, .long vM_onUp, .long vM_onDown, .int vM_great, .ref aM_path, .ref aM_gets, .int vM_triedOff, .int vM_triedLeaked, .int vM_triedKept, .ref aM_gotNow, .int vM_fitting, .int vM_firstSet, .int vM_inAll, .int vM_inAny, .int vM_at, .int vM_sort, .int vM_from, .long vM_value, .int vM_fault, .ref aM_bitsOf, .ref aM_sizeOf, .ref aM_number, .ref aM_passing])), (aM_d, .inl (cyI, 64, .inl cM_d)), (aM_e, .inl (cyI, 64, .inl cM_e)), (aM_came, .inl (cyI, 10, .inl cM_came)), (aM_got, .inl (cyI, 10, .inl cM_got)), (aM_held, .inl (cyI, 10, .inl cM_held)), (aM_off, .inl (cyI, 10, .inl cM_off)), (aM_found, .inl (cyI, 7, .inl cM_found))]
set_option maxHeartbeats 4000000 in
set_option maxRecDepth 100000 in
theorem t_X8_needs (l : Launch) (D : va_G) (cyI cyJ cyZ cyB cyO : ClassId) (aM aM_d aM_e aM_came aM_got aM_held aM_off aM_found aM_f aM_kept aM_tape aM_comesUp aM_comesDown aM_path aM_gets aM_gotNow aM_bitsOf aM_sizeOf aM_number aM_passing : Nat) (vM_isKept : Int32) (vM_taped : Int32) (vM_leaked : Int32) (vM_keptAll : Int32) (vM_offAll : Int32) (vM_up : Int64) (vM_down : Int64) (vM_sharesUp : Int64) (vM_sharesDown : Int64) (vM_onUp : Int64) (vM_onDown : Int64) (vM_great : Int32) (vM_triedOff : Int32) (vM_triedLeaked : Int32) (vM_triedKept : Int32) (vM_fitting : Int32) (vM_firstSet : Int32) (vM_inAll : Int32) (vM_inAny : Int32) (vM_at : Int32) (vM_sort : Int32) (vM_from : Int32) (vM_value : Int64) (vM_fault : Int32) (cM_d : Nat → Int32) (cM_e : Nat → Int32) (cM_came : Nat → Int32) (cM_got : Nat → Int32) (cM_held : Nat → Int32) (cM_off : Nat → Int32) (cM_found : Nat → Int32) (x1 : Int32) (out : Int32 × Int32 × Int32 × Int32 × (Nat → Int32) × (Nat → Int32) × (Nat → Int32) × (Nat → Int32) × (Nat → Int32) × (Nat → Int32) × (Nat → Int32)) (h : f_X8_needs x1 vM_leaked vM_keptAll vM_offAll cM_d cM_e cM_came cM_got cM_held cM_off cM_found = some out) : Mi l yX8_needs wsX8_needs ({ frames := 4, cells := 0, slots := 0, locals := 96 } : Room) D (tyA cyI cyJ cyZ cyB cyO) [.ref aM, .int x1] (w_X8_needs cyI cyJ cyZ cyB cyO aM aM_d aM_e aM_came aM_got aM_held aM_off aM_found aM_f aM_kept aM_tape aM_comesUp aM_comesDown aM_path aM_gets aM_gotNow aM_bitsOf aM_sizeOf aM_number aM_passing vM_isKept vM_taped vM_leaked vM_keptAll vM_offAll vM_up vM_down vM_sharesUp vM_sharesDown vM_onUp vM_onDown vM_great vM_triedOff vM_triedLeaked vM_triedKept vM_fitting vM_firstSet vM_inAll vM_inAny vM_at vM_sort vM_from vM_value vM_fault cM_d cM_e cM_came cM_got cM_held cM_off cM_found) (w_X8_needs cyI cyJ cyZ cyB cyO aM aM_d aM_e aM_came aM_got aM_held aM_off aM_found aM_f aM_kept aM_tape aM_comesUp aM_comesDown aM_path aM_gets aM_gotNow aM_bitsOf aM_sizeOf aM_number aM_passing vM_isKept vM_taped out.2.1 out.2.2.1 out.2.2.2.1 vM_up vM_down vM_sharesUp vM_sharesDown vM_onUp vM_onDown vM_great vM_triedOff vM_triedLeaked vM_triedKept vM_fitting vM_firstSet vM_inAll vM_inAny vM_at vM_sort vM_from vM_value vM_fault out.2.2.2.2.1 out.2.2.2.2.2.1 out.2.2.2.2.2.2.1 out.2.2.2.2.2.2.2.1 out.2.2.2.2.2.2.2.2.1 out.2.2.2.2.2.2.2.2.2.1 out.2.2.2.2.2.2.2.2.2.2) out.1 := by
  refine Mi.mk (cc := cX8_needs) (maxL := 5) (rt := .int) (own := RX8) (by decide) rfl rfl (Nat.le_of_ble_eq_true rfl) ?_
  intro p e s m args below meth c A Q F hK hP hD hA hret ls hl
  obtain ⟨hx, hb, hml, hown, hts⟩ := id F
  have hS : va_S A s.heap s.heap [] := va_S.rf
  have hl : lv_has ls 5 [(0, .ref aM), (1, .int x1)] := hl
  have in_X8 : ∀ w ∈ wsX80, w ∈ wsX8_needs := by decide +kernel
  have q1 := hts (Cond.constantLong RX8 187 (99)) (List.mem_of_getElem? (i := 1) rfl)
  have q5 := hts (Cond.methodLink RX8 70 yX8_in) (List.mem_of_getElem? (i := 5) rfl)
  have q2 := hts (Cond.fieldLink RX8 7 "ThirdFountainModel" "d" "[I") (List.mem_of_getElem? (i := 2) rfl)
  have q3 := hts (Cond.fieldLink RX8 13 "ThirdFountainModel" "e" "[I") (List.mem_of_getElem? (i := 3) rfl)
  have q15 := hts (Cond.methodLink RX8 189 yX8_copies) (List.mem_of_getElem? (i := 15) rfl)
  have q9 := hts (Cond.methodLink RX8 115 yX8_finds) (List.mem_of_getElem? (i := 9) rfl)
  have q4 := hts (Cond.constant RX8 193 (99999)) (List.mem_of_getElem? (i := 4) rfl)
  have q26 := hts (Cond.methodLink RX8 194 yX8_isAllKept) (List.mem_of_getElem? (i := 26) rfl)
  have q18 := hts (Cond.methodLink RX8 105 yX8_sets) (List.mem_of_getElem? (i := 18) rfl)
  have q22 := hts (Cond.methodLink RX8 74 yX8_its) (List.mem_of_getElem? (i := 22) rfl)
  unfold f_X8_needs at h
  refine lv_iload_n hx hb dX8_needs_0 rfl (lv_at hl 1 rfl) ?_
  refine lv_i2l hx hb dX8_needs_1 rfl ?_
  refine lv_lconst (v := 1) hx hb dX8_needs_2 (by decide) ?_
  refine lv_ldc2 (v := 99) hx hb hown q1 dX8_needs_3 ?_
  obtain ⟨u1, hu1, h⟩ := bd_some h
  refine cl_Si (rest := []) F hK hP hD hS hA hl (t_X8_in l D cyI cyJ cyZ cyB cyO x1.toInt64 (1 : Int64) (99 : Int64) u1 hu1) (va_cwS 3 hts gX8_needs_X8_in rfl rfl rfl (by decide +kernel) ⟨Nat.le_of_ble_eq_true rfl, Nat.le_of_ble_eq_true rfl⟩) [] [0, 0, 0, 0, 0, 0, 0, 0] [] (w_X8_needs cyI cyJ cyZ cyB cyO aM aM_d aM_e aM_came aM_got aM_held aM_off aM_found aM_f aM_kept aM_tape aM_comesUp aM_comesDown aM_path aM_gets aM_gotNow aM_bitsOf aM_sizeOf aM_number aM_passing vM_isKept vM_taped vM_leaked vM_keptAll vM_offAll vM_up vM_down vM_sharesUp vM_sharesDown vM_onUp vM_onDown vM_great vM_triedOff vM_triedLeaked vM_triedKept vM_fitting vM_firstSet vM_inAll vM_inAny vM_at vM_sort vM_from vM_value vM_fault cM_d cM_e cM_came cM_got cM_held cM_off cM_found) rfl rfl rfl (by decide +kernel) rfl rfl (Nat.le_of_ble_eq_true rfl) ⟨Nat.zero_le _, Nat.zero_le _⟩ dX8_needs_6 (fun H locs hP hD hS => ?_)
  refine lv_if_ne (tgt := 18) hx hb dX8_needs_9 (by decide) (fun c2 => ?_) (fun c2 => ?_)
  · have h := br_neg c2 h
    refine lv_aload_n hx hb dX8_needs_18 rfl (lv_at hl 0 rfl) ?_
    refine va_get (D := D) (ci := 7) (v := .ref aM_d) (C := RX8) (T := TX8) (N := 43) hx hb hts in_X8 hown hK hP 0 rfl rfl 0 (by decide) q2 (fun _ h9 => h9) rfl dX8_needs_19 ?_
    refine lv_iconst (v := 0) hx hb dX8_needs_22 (by decide) ?_
    refine va_iald hx hb hK hP 1 0 rfl rfl (by unfold vp_in; decide) dX8_needs_23 ?_
    refine lv_if_ne (tgt := 33) hx hb dX8_needs_24 (by decide) (fun c3 => ?_) (fun c3 => ?_)
    · have h := br_neg c3 h
      refine lv_aload_n hx hb dX8_needs_33 rfl (lv_at hl 0 rfl) ?_
      refine va_get (D := D) (ci := 7) (v := .ref aM_d) (C := RX8) (T := TX8) (N := 43) hx hb hts in_X8 hown hK hP 0 rfl rfl 0 (by decide) q2 (fun _ h9 => h9) rfl dX8_needs_34 ?_
      refine lv_aload_n hx hb dX8_needs_37 rfl (lv_at hl 0 rfl) ?_
      refine va_get (D := D) (ci := 7) (v := .ref aM_e) (C := RX8) (T := TX8) (N := 43) hx hb hts in_X8 hown hK hP 0 rfl rfl 1 (by decide) q3 (fun _ h9 => h9) rfl dX8_needs_38 ?_
      obtain ⟨u4, hu4, h⟩ := bd_some h
      refine cl_Sv (rest := []) F hK hP hD hS hA hl (t_X8_copies l D cyI cyJ cyZ cyB cyO aM_d aM_e cM_d cM_e u4 hu4) (va_cwS 2 hts gX8_needs_X8_copies rfl rfl rfl (by decide +kernel) ⟨Nat.le_of_ble_eq_true rfl, Nat.le_of_ble_eq_true rfl⟩) [1, 2] [0, 1, 2, 0, 0, 0, 0, 0] [] (w_X8_needs cyI cyJ cyZ cyB cyO aM aM_d aM_e aM_came aM_got aM_held aM_off aM_found aM_f aM_kept aM_tape aM_comesUp aM_comesDown aM_path aM_gets aM_gotNow aM_bitsOf aM_sizeOf aM_number aM_passing vM_isKept vM_taped vM_leaked vM_keptAll vM_offAll vM_up vM_down vM_sharesUp vM_sharesDown vM_onUp vM_onDown vM_great vM_triedOff vM_triedLeaked vM_triedKept vM_fitting vM_firstSet vM_inAll vM_inAny vM_at vM_sort vM_from vM_value vM_fault cM_d u4 cM_came cM_got cM_held cM_off cM_found) rfl rfl rfl (by decide +kernel) rfl rfl (Nat.le_of_ble_eq_true rfl) ⟨Nat.zero_le _, Nat.zero_le _⟩ dX8_needs_41 (fun H locs hP hD hS => ?_)
      refine lv_iconst (v := 0) hx hb dX8_needs_44 (by decide) ?_
      refine lv_istore_n (lv' := [(2, .int (0 : Int32)), (0, .ref aM), (1, .int x1)]) hx hb dX8_needs_45 rfl hl (by decide) rfl (fun ls hl => ?_)
      refine lv_iconst (v := 0) hx hb dX8_needs_46 (by decide) ?_
      refine lv_istore_n (lv' := [(3, .int (0 : Int32)), (2, .int (0 : Int32)), (0, .ref aM), (1, .int x1)]) hx hb dX8_needs_47 rfl hl (by decide) rfl (fun ls hl => ?_)
      have lp48 : ∀ (k48 : Nat) (y2 : Int32) (y3 : Int32) (vM_leaked : Int32) (vM_keptAll : Int32) (vM_offAll : Int32) (cM_d : Nat → Int32) (cM_e : Nat → Int32) (cM_came : Nat → Int32) (cM_got : Nat → Int32) (cM_held : Nat → Int32) (cM_off : Nat → Int32) (cM_found : Nat → Int32) (H : Heap) (locs : List Loc) (ls : Array Slot), va_P D vwCl (w_X8_needs cyI cyJ cyZ cyB cyO aM aM_d aM_e aM_came aM_got aM_held aM_off aM_found aM_f aM_kept aM_tape aM_comesUp aM_comesDown aM_path aM_gets aM_gotNow aM_bitsOf aM_sizeOf aM_number aM_passing vM_isKept vM_taped vM_leaked vM_keptAll vM_offAll vM_up vM_down vM_sharesUp vM_sharesDown vM_onUp vM_onDown vM_great vM_triedOff vM_triedLeaked vM_triedKept vM_fitting vM_firstSet vM_inAll vM_inAny vM_at vM_sort vM_from vM_value vM_fault cM_d cM_e cM_came cM_got cM_held cM_off cM_found) H → va_D A (w_X8_needs cyI cyJ cyZ cyB cyO aM aM_d aM_e aM_came aM_got aM_held aM_off aM_found aM_f aM_kept aM_tape aM_comesUp aM_comesDown aM_path aM_gets aM_gotNow aM_bitsOf aM_sizeOf aM_number aM_passing vM_isKept vM_taped vM_leaked vM_keptAll vM_offAll vM_up vM_down vM_sharesUp vM_sharesDown vM_onUp vM_onDown vM_great vM_triedOff vM_triedLeaked vM_triedKept vM_fitting vM_firstSet vM_inAll vM_inAny vM_at vM_sort vM_from vM_value vM_fault cM_d cM_e cM_came cM_got cM_held cM_off cM_found) → va_S A s.heap H locs → lv_has ls 5 [(2, .int y2), (3, .int y3), (0, .ref aM), (1, .int x1)] → (f_X8_needs_L48 x1 k48) (y2, y3, vM_leaked, vM_keptAll, vM_offAll, cM_d, cM_e, cM_came, cM_got, cM_held, cM_off, cM_found) = some out → W p l e ({ frames := 4, cells := 0, slots := 0, locals := 96 } : Room) s m args below meth c H locs 0 0 Q (F0 m 48 ls []) := by
        intro k48
        induction k48 with
        | zero => intro y2 y3 vM_leaked vM_keptAll vM_offAll cM_d cM_e cM_came cM_got cM_held cM_off cM_found H locs ls hP hD hS hl h; cases h
        | succ k48 ih48 =>
          intro y2 y3 vM_leaked vM_keptAll vM_offAll cM_d cM_e cM_came cM_got cM_held cM_off cM_found H locs ls hP hD hS hl h
          have h : f_X8_needs_L48_b x1 (f_X8_needs_L48 x1 k48) y2 y3 vM_leaked vM_keptAll vM_offAll cM_d cM_e cM_came cM_got cM_held cM_off cM_found = some out := h
          unfold f_X8_needs_L48_b at h
          refine lv_iload_n hx hb dX8_needs_48 rfl (lv_at hl 1 rfl) ?_
          refine lv_aload_n hx hb dX8_needs_49 rfl (lv_at hl 2 rfl) ?_
          refine va_get (D := D) (ci := 7) (v := .ref aM_d) (C := RX8) (T := TX8) (N := 43) hx hb hts in_X8 hown hK hP 0 rfl rfl 0 (by decide) q2 (fun _ h9 => h9) rfl dX8_needs_50 ?_
          refine lv_iconst (v := 0) hx hb dX8_needs_53 (by decide) ?_
          refine va_iald hx hb hK hP 1 0 rfl rfl (by unfold vp_in; decide) dX8_needs_54 ?_
          refine lv_icmp_ge (tgt := 92) hx hb dX8_needs_55 (by decide) (fun c5 => ?_) (fun c5 => ?_)
          · have h := br_pos c5 h
            refine lv_iconst (v := 1) hx hb dX8_needs_92 (by decide) ?_
            refine lv_istore_n (lv' := [(3, .int (1 : Int32)), (2, .int y2), (0, .ref aM), (1, .int x1)]) hx hb dX8_needs_93 rfl hl (by decide) rfl (fun ls hl => ?_)
            refine lv_iconst (v := 0) hx hb dX8_needs_94 (by decide) ?_
            refine lv_istore (lv' := [(4, .int (0 : Int32)), (3, .int (1 : Int32)), (2, .int y2), (0, .ref aM), (1, .int x1)]) hx hb dX8_needs_95 hl (by decide) rfl (fun ls hl => ?_)
            have lp97 : ∀ (k97 : Nat) (y2 : Int32) (y3 : Int32) (y4 : Int32) (vM_leaked : Int32) (vM_keptAll : Int32) (vM_offAll : Int32) (cM_d : Nat → Int32) (cM_e : Nat → Int32) (cM_came : Nat → Int32) (cM_got : Nat → Int32) (cM_held : Nat → Int32) (cM_off : Nat → Int32) (cM_found : Nat → Int32) (H : Heap) (locs : List Loc) (ls : Array Slot), va_P D vwCl (w_X8_needs cyI cyJ cyZ cyB cyO aM aM_d aM_e aM_came aM_got aM_held aM_off aM_found aM_f aM_kept aM_tape aM_comesUp aM_comesDown aM_path aM_gets aM_gotNow aM_bitsOf aM_sizeOf aM_number aM_passing vM_isKept vM_taped vM_leaked vM_keptAll vM_offAll vM_up vM_down vM_sharesUp vM_sharesDown vM_onUp vM_onDown vM_great vM_triedOff vM_triedLeaked vM_triedKept vM_fitting vM_firstSet vM_inAll vM_inAny vM_at vM_sort vM_from vM_value vM_fault cM_d cM_e cM_came cM_got cM_held cM_off cM_found) H → va_D A (w_X8_needs cyI cyJ cyZ cyB cyO aM aM_d aM_e aM_came aM_got aM_held aM_off aM_found aM_f aM_kept aM_tape aM_comesUp aM_comesDown aM_path aM_gets aM_gotNow aM_bitsOf aM_sizeOf aM_number aM_passing vM_isKept vM_taped vM_leaked vM_keptAll vM_offAll vM_up vM_down vM_sharesUp vM_sharesDown vM_onUp vM_onDown vM_great vM_triedOff vM_triedLeaked vM_triedKept vM_fitting vM_firstSet vM_inAll vM_inAny vM_at vM_sort vM_from vM_value vM_fault cM_d cM_e cM_came cM_got cM_held cM_off cM_found) → va_S A s.heap H locs → lv_has ls 5 [(2, .int y2), (3, .int y3), (4, .int y4), (0, .ref aM), (1, .int x1)] → (f_X8_needs_L97 x1 k97) (y2, y3, y4, vM_leaked, vM_keptAll, vM_offAll, cM_d, cM_e, cM_came, cM_got, cM_held, cM_off, cM_found) = some out → W p l e ({ frames := 4, cells := 0, slots := 0, locals := 96 } : Room) s m args below meth c H locs 0 0 Q (F0 m 97 ls []) := by
              intro k97
              induction k97 with
              | zero => intro y2 y3 y4 vM_leaked vM_keptAll vM_offAll cM_d cM_e cM_came cM_got cM_held cM_off cM_found H locs ls hP hD hS hl h; cases h
              | succ k97 ih97 =>
                intro y2 y3 y4 vM_leaked vM_keptAll vM_offAll cM_d cM_e cM_came cM_got cM_held cM_off cM_found H locs ls hP hD hS hl h
                have h : f_X8_needs_L97_b x1 (f_X8_needs_L97 x1 k97) y2 y3 y4 vM_leaked vM_keptAll vM_offAll cM_d cM_e cM_came cM_got cM_held cM_off cM_found = some out := h
                unfold f_X8_needs_L97_b at h
                refine lv_iload_n hx hb dX8_needs_97 rfl (lv_at hl 0 rfl) ?_
                have j142 : ∀ (y3 : Int32) (y4 : Int32) (vM_leaked : Int32) (vM_keptAll : Int32) (vM_offAll : Int32) (cM_d : Nat → Int32) (cM_e : Nat → Int32) (cM_came : Nat → Int32) (cM_got : Nat → Int32) (cM_held : Nat → Int32) (cM_off : Nat → Int32) (cM_found : Nat → Int32) (H : Heap) (locs : List Loc) (ls : Array Slot), va_P D vwCl (w_X8_needs cyI cyJ cyZ cyB cyO aM aM_d aM_e aM_came aM_got aM_held aM_off aM_found aM_f aM_kept aM_tape aM_comesUp aM_comesDown aM_path aM_gets aM_gotNow aM_bitsOf aM_sizeOf aM_number aM_passing vM_isKept vM_taped vM_leaked vM_keptAll vM_offAll vM_up vM_down vM_sharesUp vM_sharesDown vM_onUp vM_onDown vM_great vM_triedOff vM_triedLeaked vM_triedKept vM_fitting vM_firstSet vM_inAll vM_inAny vM_at vM_sort vM_from vM_value vM_fault cM_d cM_e cM_came cM_got cM_held cM_off cM_found) H → va_D A (w_X8_needs cyI cyJ cyZ cyB cyO aM aM_d aM_e aM_came aM_got aM_held aM_off aM_found aM_f aM_kept aM_tape aM_comesUp aM_comesDown aM_path aM_gets aM_gotNow aM_bitsOf aM_sizeOf aM_number aM_passing vM_isKept vM_taped vM_leaked vM_keptAll vM_offAll vM_up vM_down vM_sharesUp vM_sharesDown vM_onUp vM_onDown vM_great vM_triedOff vM_triedLeaked vM_triedKept vM_fitting vM_firstSet vM_inAll vM_inAny vM_at vM_sort vM_from vM_value vM_fault cM_d cM_e cM_came cM_got cM_held cM_off cM_found) → va_S A s.heap H locs → lv_has ls 5 [(3, .int y3), (4, .int y4), (0, .ref aM)] → f_X8_needs_J142 x1 y3 y4 vM_leaked vM_keptAll vM_offAll cM_d cM_e cM_came cM_got cM_held cM_off cM_found = some out → W p l e ({ frames := 4, cells := 0, slots := 0, locals := 96 } : Room) s m args below meth c H locs 0 0 Q (F0 m 142 ls []) := by
                  intro y3 y4 vM_leaked vM_keptAll vM_offAll cM_d cM_e cM_came cM_got cM_held cM_off cM_found H locs ls hP hD hS hl h
                  unfold f_X8_needs_J142 at h
                  refine lv_aload_n hx hb dX8_needs_142 rfl (lv_at hl 2 rfl) ?_
                  refine va_get (D := D) (ci := 7) (v := .ref aM_e) (C := RX8) (T := TX8) (N := 43) hx hb hts in_X8 hown hK hP 0 rfl rfl 1 (by decide) q3 (fun _ h9 => h9) rfl dX8_needs_143 ?_
                  refine lv_aload_n hx hb dX8_needs_146 rfl (lv_at hl 2 rfl) ?_
                  refine va_get (D := D) (ci := 7) (v := .ref aM_d) (C := RX8) (T := TX8) (N := 43) hx hb hts in_X8 hown hK hP 0 rfl rfl 0 (by decide) q2 (fun _ h9 => h9) rfl dX8_needs_147 ?_
                  obtain ⟨u6, hu6, h⟩ := bd_some h
                  refine cl_Sv (rest := []) F hK hP hD hS hA hl (t_X8_copies l D cyI cyJ cyZ cyB cyO aM_e aM_d cM_e cM_d u6 hu6) (va_cwS 2 hts gX8_needs_X8_copies rfl rfl rfl (by decide +kernel) ⟨Nat.le_of_ble_eq_true rfl, Nat.le_of_ble_eq_true rfl⟩) [2, 1] [0, 2, 1, 0, 0, 0, 0, 0] [] (w_X8_needs cyI cyJ cyZ cyB cyO aM aM_d aM_e aM_came aM_got aM_held aM_off aM_found aM_f aM_kept aM_tape aM_comesUp aM_comesDown aM_path aM_gets aM_gotNow aM_bitsOf aM_sizeOf aM_number aM_passing vM_isKept vM_taped vM_leaked vM_keptAll vM_offAll vM_up vM_down vM_sharesUp vM_sharesDown vM_onUp vM_onDown vM_great vM_triedOff vM_triedLeaked vM_triedKept vM_fitting vM_firstSet vM_inAll vM_inAny vM_at vM_sort vM_from vM_value vM_fault u6 cM_e cM_came cM_got cM_held cM_off cM_found) rfl rfl rfl (by decide +kernel) rfl rfl (Nat.le_of_ble_eq_true rfl) ⟨Nat.zero_le _, Nat.zero_le _⟩ dX8_needs_150 (fun H locs hP hD hS => ?_)
                  refine lv_iload hx hb dX8_needs_153 (lv_at hl 1 rfl) ?_
                  refine lv_if_eq (tgt := 162) hx hb dX8_needs_155 (by decide) (fun c7 => ?_) (fun c7 => ?_)
                  · have h := br_pos c7 h
                    refine lv_aload_n hx hb dX8_needs_162 rfl (lv_at hl 2 rfl) ?_
                    refine lv_iconst (v := 3) hx hb dX8_needs_163 (by decide) ?_
                    obtain ⟨u8, hu8, h⟩ := bd_some h
                    refine cl_Vi (rest := []) F hK hP hD hS hA hl (t_X8_finds l D cyI cyJ cyZ cyB cyO aM aM_found aM_d aM_e aM_f aM_kept aM_tape aM_came aM_got aM_held aM_off aM_comesUp aM_comesDown aM_path aM_gets aM_gotNow aM_bitsOf aM_sizeOf aM_number aM_passing vM_isKept vM_taped vM_leaked vM_keptAll vM_offAll vM_up vM_down vM_sharesUp vM_sharesDown vM_onUp vM_onDown vM_great vM_triedOff vM_triedLeaked vM_triedKept vM_fitting vM_firstSet vM_inAll vM_inAny vM_at vM_sort vM_from vM_value vM_fault cM_found (3 : Int32) u8 hu8) (cwV 1 hts gX8_needs_X8_finds rfl rfl rfl (by decide +kernel) ⟨Nat.le_of_ble_eq_true rfl, Nat.le_of_ble_eq_true rfl⟩) 0 [0, 7] [1, 0, 0, 0, 0, 0, 0, 2] [] (w_X8_needs cyI cyJ cyZ cyB cyO aM aM_d aM_e aM_came aM_got aM_held aM_off aM_found aM_f aM_kept aM_tape aM_comesUp aM_comesDown aM_path aM_gets aM_gotNow aM_bitsOf aM_sizeOf aM_number aM_passing vM_isKept vM_taped vM_leaked vM_keptAll vM_offAll vM_up vM_down vM_sharesUp vM_sharesDown vM_onUp vM_onDown vM_great vM_triedOff vM_triedLeaked vM_triedKept vM_fitting vM_firstSet vM_inAll vM_inAny vM_at vM_sort vM_from vM_value vM_fault u6 cM_e cM_came cM_got cM_held cM_off u8.2) rfl rfl rfl rfl rfl (by decide +kernel) rfl rfl (Nat.le_of_ble_eq_true rfl) ⟨Nat.zero_le _, Nat.zero_le _⟩ dX8_needs_164 (fun H locs hP hD hS => ?_)
                    obtain rfl := Option.some.inj h
                    exact hret _ _ _ _ _ hP hD hS dX8_needs_167 rfl rfl
                  · have h := br_neg c7 h
                    refine lv_iload_n hx hb dX8_needs_158 rfl (lv_at hl 0 rfl) ?_
                    refine lv_goto (tgt := 167) hx hb dX8_needs_159 (by decide) ?_
                    obtain rfl := Option.some.inj h
                    exact hret _ _ _ _ _ hP hD hS dX8_needs_167 rfl rfl
                refine lv_if_ne (tgt := 142) hx hb dX8_needs_98 (by decide) (fun c9 => ?_) (fun c9 => ?_)
                · have h := br_neg c9 h
                  exact j142 y3 y4 vM_leaked vM_keptAll vM_offAll cM_d cM_e cM_came cM_got cM_held cM_off cM_found _ _ _ hP hD hS (lv_sub hl [1, 2, 3] rfl) h
                · have h := br_pos c9 h
                  refine lv_iload hx hb dX8_needs_101 (lv_at hl 2 rfl) ?_
                  refine lv_if_ne (tgt := 142) hx hb dX8_needs_103 (by decide) (fun c10 => ?_) (fun c10 => ?_)
                  · have h := br_neg c10 h
                    exact j142 y3 y4 vM_leaked vM_keptAll vM_offAll cM_d cM_e cM_came cM_got cM_held cM_off cM_found _ _ _ hP hD hS (lv_sub hl [1, 2, 3] rfl) h
                  · have h := br_pos c10 h
                    refine lv_iload_n hx hb dX8_needs_106 rfl (lv_at hl 1 rfl) ?_
                    refine lv_ldc (v := 99999) hx hb hown q4 dX8_needs_107 ?_
                    refine lv_icmp_gt (tgt := 142) hx hb dX8_needs_109 (by decide) (fun c11 => ?_) (fun c11 => ?_)
                    · have h := br_pos c11 h
                      exact j142 y3 y4 vM_leaked vM_keptAll vM_offAll cM_d cM_e cM_came cM_got cM_held cM_off cM_found _ _ _ hP hD hS (lv_sub hl [1, 2, 3] rfl) h
                    · have h := br_neg c11 h
                      refine lv_aload_n hx hb dX8_needs_112 rfl (lv_at hl 3 rfl) ?_
                      refine va_get (D := D) (ci := 7) (v := .ref aM_d) (C := RX8) (T := TX8) (N := 43) hx hb hts in_X8 hown hK hP 0 rfl rfl 0 (by decide) q2 (fun _ h9 => h9) rfl dX8_needs_113 ?_
                      refine lv_iconst (v := 3) hx hb dX8_needs_116 (by decide) ?_
                      refine lv_iload_n hx hb dX8_needs_117 rfl (lv_at hl 1 rfl) ?_
                      refine va_iast hx hb hK hP hD hS 1 0 rfl rfl (by unfold vp_in; decide) dX8_needs_118 (fun H locs hP hD hS => ?_)
                      have hP : va_P D vwCl (w_X8_needs cyI cyJ cyZ cyB cyO aM aM_d aM_e aM_came aM_got aM_held aM_off aM_found aM_f aM_kept aM_tape aM_comesUp aM_comesDown aM_path aM_gets aM_gotNow aM_bitsOf aM_sizeOf aM_number aM_passing vM_isKept vM_taped vM_leaked vM_keptAll vM_offAll vM_up vM_down vM_sharesUp vM_sharesDown vM_onUp vM_onDown vM_great vM_triedOff vM_triedLeaked vM_triedKept vM_fitting vM_firstSet vM_inAll vM_inAny vM_at vM_sort vM_from vM_value vM_fault (upd cM_d (3 : Int32).toNatClampNeg y3) cM_e cM_came cM_got cM_held cM_off cM_found) H := hP
                      have hD : va_D A (w_X8_needs cyI cyJ cyZ cyB cyO aM aM_d aM_e aM_came aM_got aM_held aM_off aM_found aM_f aM_kept aM_tape aM_comesUp aM_comesDown aM_path aM_gets aM_gotNow aM_bitsOf aM_sizeOf aM_number aM_passing vM_isKept vM_taped vM_leaked vM_keptAll vM_offAll vM_up vM_down vM_sharesUp vM_sharesDown vM_onUp vM_onDown vM_great vM_triedOff vM_triedLeaked vM_triedKept vM_fitting vM_firstSet vM_inAll vM_inAny vM_at vM_sort vM_from vM_value vM_fault (upd cM_d (3 : Int32).toNatClampNeg y3) cM_e cM_came cM_got cM_held cM_off cM_found) := hD
                      refine lv_aload_n hx hb dX8_needs_119 rfl (lv_at hl 3 rfl) ?_
                      refine lv_iload_n hx hb dX8_needs_120 rfl (lv_at hl 4 rfl) ?_
                      obtain ⟨u12, hu12, h⟩ := bd_some h
                      refine cl_Vi (rest := []) F hK hP hD hS hA hl (t_X8_isAllKept l D cyI cyJ cyZ cyB cyO aM aM_d aM_came aM_got aM_held aM_off aM_e aM_f aM_kept aM_found aM_tape aM_comesUp aM_comesDown aM_path aM_gets aM_gotNow aM_bitsOf aM_sizeOf aM_number aM_passing vM_isKept vM_taped vM_leaked vM_keptAll vM_offAll vM_up vM_down vM_sharesUp vM_sharesDown vM_onUp vM_onDown vM_great vM_triedOff vM_triedLeaked vM_triedKept vM_fitting vM_firstSet vM_inAll vM_inAny vM_at vM_sort vM_from vM_value vM_fault (upd cM_d (3 : Int32).toNatClampNeg y3) cM_came cM_got cM_held cM_off x1 u12 hu12) (cwV 1 hts gX8_needs_X8_isAllKept rfl rfl rfl (by decide +kernel) ⟨Nat.le_of_ble_eq_true rfl, Nat.le_of_ble_eq_true rfl⟩) 0 [0, 1, 3, 4, 5, 6] [1, 2, 0, 3, 4, 5, 6, 0] [] (w_X8_needs cyI cyJ cyZ cyB cyO aM aM_d aM_e aM_came aM_got aM_held aM_off aM_found aM_f aM_kept aM_tape aM_comesUp aM_comesDown aM_path aM_gets aM_gotNow aM_bitsOf aM_sizeOf aM_number aM_passing vM_isKept vM_taped u12.2.1 u12.2.2.1 u12.2.2.2.1 vM_up vM_down vM_sharesUp vM_sharesDown vM_onUp vM_onDown vM_great vM_triedOff vM_triedLeaked vM_triedKept vM_fitting vM_firstSet vM_inAll vM_inAny vM_at vM_sort vM_from vM_value vM_fault (upd cM_d (3 : Int32).toNatClampNeg y3) cM_e u12.2.2.2.2.1 u12.2.2.2.2.2.1 u12.2.2.2.2.2.2.1 u12.2.2.2.2.2.2.2 cM_found) rfl rfl rfl rfl rfl (by decide +kernel) rfl rfl (Nat.le_of_ble_eq_true rfl) ⟨Nat.zero_le _, Nat.zero_le _⟩ dX8_needs_121 (fun H locs hP hD hS => ?_)
                      refine lv_istore (lv' := [(4, .int u12.1), (2, .int y2), (3, .int y3), (0, .ref aM), (1, .int x1)]) hx hb dX8_needs_124 hl (by decide) rfl (fun ls hl => ?_)
                      refine lv_iload_n hx hb dX8_needs_126 rfl (lv_at hl 2 rfl) ?_
                      refine lv_iload hx hb dX8_needs_127 (lv_at hl 0 rfl) ?_
                      refine lv_if_eq (tgt := 136) hx hb dX8_needs_129 (by decide) (fun c13 => ?_) (fun c13 => ?_)
                      · have h := br_pos c13 h
                        refine lv_iconst (v := 1) hx hb dX8_needs_136 (by decide) ?_
                        refine lv_iadd hx hb dX8_needs_137 ?_
                        refine lv_topi (fun z14 ez14 => ?_)
                        have h := nm_at ez14 h
                        refine lv_istore_n (lv' := [(3, .int z14), (4, .int u12.1), (2, .int y2), (0, .ref aM), (1, .int x1)]) hx hb dX8_needs_138 rfl hl (by decide) rfl (fun ls hl => ?_)
                        refine lv_goto (tgt := 97) hx hb dX8_needs_139 (by decide) ?_
                        exact ih97 y2 z14 u12.1 u12.2.1 u12.2.2.1 u12.2.2.2.1 (upd cM_d (3 : Int32).toNatClampNeg y3) cM_e u12.2.2.2.2.1 u12.2.2.2.2.2.1 u12.2.2.2.2.2.2.1 u12.2.2.2.2.2.2.2 cM_found _ _ _ hP hD hS (lv_sub hl [2, 0, 1, 3, 4] rfl) h
                      · have h := br_neg c13 h
                        refine lv_iconst (v := 0) hx hb dX8_needs_132 (by decide) ?_
                        refine lv_goto (tgt := 137) hx hb dX8_needs_133 (by decide) ?_
                        refine lv_iadd hx hb dX8_needs_137 ?_
                        refine lv_topi (fun z15 ez15 => ?_)
                        have h := nm_at ez15 h
                        refine lv_istore_n (lv' := [(3, .int z15), (4, .int u12.1), (2, .int y2), (0, .ref aM), (1, .int x1)]) hx hb dX8_needs_138 rfl hl (by decide) rfl (fun ls hl => ?_)
                        refine lv_goto (tgt := 97) hx hb dX8_needs_139 (by decide) ?_
                        exact ih97 y2 z15 u12.1 u12.2.1 u12.2.2.1 u12.2.2.2.1 (upd cM_d (3 : Int32).toNatClampNeg y3) cM_e u12.2.2.2.2.1 u12.2.2.2.2.2.1 u12.2.2.2.2.2.2.1 u12.2.2.2.2.2.2.2 cM_found _ _ _ hP hD hS (lv_sub hl [2, 0, 1, 3, 4] rfl) h
            exact lp97 FU y2 (1 : Int32) (0 : Int32) vM_leaked vM_keptAll vM_offAll cM_d cM_e cM_came cM_got cM_held cM_off cM_found _ _ _ hP hD hS (lv_sub hl [2, 1, 0, 3, 4] rfl) h
          · have h := br_neg c5 h
            refine lv_aload_n hx hb dX8_needs_58 rfl (lv_at hl 2 rfl) ?_
            refine lv_iload_n hx hb dX8_needs_59 rfl (lv_at hl 1 rfl) ?_
            refine lv_iconst (v := 3) hx hb dX8_needs_60 (by decide) ?_
            refine lv_bipush (v := 30) hx hb dX8_needs_61 (by decide) ?_
            obtain ⟨u16, hu16, h⟩ := bd_some h
            refine cl_Vv (rest := []) F hK hP hD hS hA hl (t_X8_sets l D cyI cyJ cyZ cyB cyO aM aM_d aM_e aM_f aM_kept aM_found aM_tape aM_came aM_got aM_held aM_off aM_comesUp aM_comesDown aM_path aM_gets aM_gotNow aM_bitsOf aM_sizeOf aM_number aM_passing vM_isKept vM_taped vM_leaked vM_keptAll vM_offAll vM_up vM_down vM_sharesUp vM_sharesDown vM_onUp vM_onDown vM_great vM_triedOff vM_triedLeaked vM_triedKept vM_fitting vM_firstSet vM_inAll vM_inAny vM_at vM_sort vM_from vM_value vM_fault cM_d y3 (3 : Int32) (30 : Int32) u16 hu16) (cwV 3 hts gX8_needs_X8_sets rfl rfl rfl (by decide +kernel) ⟨Nat.le_of_ble_eq_true rfl, Nat.le_of_ble_eq_true rfl⟩) 0 [0, 1] [1, 2, 0, 0, 0, 0, 0, 0] [] (w_X8_needs cyI cyJ cyZ cyB cyO aM aM_d aM_e aM_came aM_got aM_held aM_off aM_found aM_f aM_kept aM_tape aM_comesUp aM_comesDown aM_path aM_gets aM_gotNow aM_bitsOf aM_sizeOf aM_number aM_passing vM_isKept vM_taped vM_leaked vM_keptAll vM_offAll vM_up vM_down vM_sharesUp vM_sharesDown vM_onUp vM_onDown vM_great vM_triedOff vM_triedLeaked vM_triedKept vM_fitting vM_firstSet vM_inAll vM_inAny vM_at vM_sort vM_from vM_value vM_fault u16 cM_e cM_came cM_got cM_held cM_off cM_found) rfl rfl rfl rfl rfl (by decide +kernel) rfl rfl (Nat.le_of_ble_eq_true rfl) ⟨Nat.zero_le _, Nat.zero_le _⟩ dX8_needs_63 (fun H locs hP hD hS => ?_)
            refine lv_iload_n hx hb dX8_needs_66 rfl (lv_at hl 0 rfl) ?_
            refine lv_if_ne (tgt := 80) hx hb dX8_needs_67 (by decide) (fun c17 => ?_) (fun c17 => ?_)
            · have h := br_neg c17 h
              refine lv_iconst (v := 1) hx hb dX8_needs_80 (by decide) ?_
              refine lv_goto (tgt := 85) hx hb dX8_needs_81 (by decide) ?_
              refine lv_istore_n (lv' := [(2, .int (1 : Int32)), (3, .int y3), (0, .ref aM), (1, .int x1)]) hx hb dX8_needs_85 rfl hl (by decide) rfl (fun ls hl => ?_)
              refine lv_iinc (v := y3 + 1) (lv' := [(3, .int (y3 + 1)), (2, .int (1 : Int32)), (0, .ref aM), (1, .int x1)]) hx hb dX8_needs_86 hl (k := 1) rfl rfl (by decide) rfl (fun ls hl => ?_)
              refine lv_goto (tgt := 48) hx hb dX8_needs_89 (by decide) ?_
              exact ih48 (1 : Int32) (y3 + 1) vM_leaked vM_keptAll vM_offAll u16 cM_e cM_came cM_got cM_held cM_off cM_found _ _ _ hP hD hS (lv_sub hl [1, 0, 2, 3] rfl) h
            · have h := br_pos c17 h
              refine lv_aload_n hx hb dX8_needs_70 rfl (lv_at hl 2 rfl) ?_
              refine lv_iload_n hx hb dX8_needs_71 rfl (lv_at hl 1 rfl) ?_
              refine lv_iconst (v := 0) hx hb dX8_needs_72 (by decide) ?_
              obtain ⟨u18, hu18, h⟩ := bd_some h
              refine cl_Vi (rest := []) F hK hP hD hS hA hl (t_X8_its l D cyI cyJ cyZ cyB cyO aM aM_d aM_e aM_f aM_kept aM_found aM_tape aM_came aM_got aM_held aM_off aM_comesUp aM_comesDown aM_path aM_gets aM_gotNow aM_bitsOf aM_sizeOf aM_number aM_passing vM_isKept vM_taped vM_leaked vM_keptAll vM_offAll vM_up vM_down vM_sharesUp vM_sharesDown vM_onUp vM_onDown vM_great vM_triedOff vM_triedLeaked vM_triedKept vM_fitting vM_firstSet vM_inAll vM_inAny vM_at vM_sort vM_from vM_value vM_fault u16 y3 (0 : Int32) u18 hu18) (cwV 2 hts gX8_needs_X8_its rfl rfl rfl (by decide +kernel) ⟨Nat.le_of_ble_eq_true rfl, Nat.le_of_ble_eq_true rfl⟩) 0 [0, 1] [1, 2, 0, 0, 0, 0, 0, 0] [] (w_X8_needs cyI cyJ cyZ cyB cyO aM aM_d aM_e aM_came aM_got aM_held aM_off aM_found aM_f aM_kept aM_tape aM_comesUp aM_comesDown aM_path aM_gets aM_gotNow aM_bitsOf aM_sizeOf aM_number aM_passing vM_isKept vM_taped vM_leaked vM_keptAll vM_offAll vM_up vM_down vM_sharesUp vM_sharesDown vM_onUp vM_onDown vM_great vM_triedOff vM_triedLeaked vM_triedKept vM_fitting vM_firstSet vM_inAll vM_inAny vM_at vM_sort vM_from vM_value vM_fault u16 cM_e cM_came cM_got cM_held cM_off cM_found) rfl rfl rfl rfl rfl (by decide +kernel) rfl rfl (Nat.le_of_ble_eq_true rfl) ⟨Nat.zero_le _, Nat.zero_le _⟩ dX8_needs_73 (fun H locs hP hD hS => ?_)
              refine lv_iconst (v := 3) hx hb dX8_needs_76 (by decide) ?_
              refine lv_icmp_ne (tgt := 84) hx hb dX8_needs_77 (by decide) (fun c19 => ?_) (fun c19 => ?_)
              · have h := br_neg c19 h
                refine lv_iconst (v := 0) hx hb dX8_needs_84 (by decide) ?_
                refine lv_istore_n (lv' := [(2, .int (0 : Int32)), (3, .int y3), (0, .ref aM), (1, .int x1)]) hx hb dX8_needs_85 rfl hl (by decide) rfl (fun ls hl => ?_)
                refine lv_iinc (v := y3 + 1) (lv' := [(3, .int (y3 + 1)), (2, .int (0 : Int32)), (0, .ref aM), (1, .int x1)]) hx hb dX8_needs_86 hl (k := 1) rfl rfl (by decide) rfl (fun ls hl => ?_)
                refine lv_goto (tgt := 48) hx hb dX8_needs_89 (by decide) ?_
                exact ih48 (0 : Int32) (y3 + 1) vM_leaked vM_keptAll vM_offAll u16 cM_e cM_came cM_got cM_held cM_off cM_found _ _ _ hP hD hS (lv_sub hl [1, 0, 2, 3] rfl) h
              · have h := br_pos c19 h
                refine lv_iconst (v := 1) hx hb dX8_needs_80 (by decide) ?_
                refine lv_goto (tgt := 85) hx hb dX8_needs_81 (by decide) ?_
                refine lv_istore_n (lv' := [(2, .int (1 : Int32)), (3, .int y3), (0, .ref aM), (1, .int x1)]) hx hb dX8_needs_85 rfl hl (by decide) rfl (fun ls hl => ?_)
                refine lv_iinc (v := y3 + 1) (lv' := [(3, .int (y3 + 1)), (2, .int (1 : Int32)), (0, .ref aM), (1, .int x1)]) hx hb dX8_needs_86 hl (k := 1) rfl rfl (by decide) rfl (fun ls hl => ?_)
                refine lv_goto (tgt := 48) hx hb dX8_needs_89 (by decide) ?_
                exact ih48 (1 : Int32) (y3 + 1) vM_leaked vM_keptAll vM_offAll u16 cM_e cM_came cM_got cM_held cM_off cM_found _ _ _ hP hD hS (lv_sub hl [1, 0, 2, 3] rfl) h
      exact lp48 FU (0 : Int32) (0 : Int32) vM_leaked vM_keptAll vM_offAll cM_d u4 cM_came cM_got cM_held cM_off cM_found _ _ _ hP hD hS (lv_sub hl [1, 0, 2, 3] rfl) h
    · have h := br_pos c3 h
      refine lv_aload_n hx hb dX8_needs_27 rfl (lv_at hl 0 rfl) ?_
      refine lv_iconst (v := 4) hx hb dX8_needs_28 (by decide) ?_
      obtain ⟨u20, hu20, h⟩ := bd_some h
      refine cl_Vi (rest := []) F hK hP hD hS hA hl (t_X8_finds l D cyI cyJ cyZ cyB cyO aM aM_found aM_d aM_e aM_f aM_kept aM_tape aM_came aM_got aM_held aM_off aM_comesUp aM_comesDown aM_path aM_gets aM_gotNow aM_bitsOf aM_sizeOf aM_number aM_passing vM_isKept vM_taped vM_leaked vM_keptAll vM_offAll vM_up vM_down vM_sharesUp vM_sharesDown vM_onUp vM_onDown vM_great vM_triedOff vM_triedLeaked vM_triedKept vM_fitting vM_firstSet vM_inAll vM_inAny vM_at vM_sort vM_from vM_value vM_fault cM_found (4 : Int32) u20 hu20) (cwV 1 hts gX8_needs_X8_finds rfl rfl rfl (by decide +kernel) ⟨Nat.le_of_ble_eq_true rfl, Nat.le_of_ble_eq_true rfl⟩) 0 [0, 7] [1, 0, 0, 0, 0, 0, 0, 2] [] (w_X8_needs cyI cyJ cyZ cyB cyO aM aM_d aM_e aM_came aM_got aM_held aM_off aM_found aM_f aM_kept aM_tape aM_comesUp aM_comesDown aM_path aM_gets aM_gotNow aM_bitsOf aM_sizeOf aM_number aM_passing vM_isKept vM_taped vM_leaked vM_keptAll vM_offAll vM_up vM_down vM_sharesUp vM_sharesDown vM_onUp vM_onDown vM_great vM_triedOff vM_triedLeaked vM_triedKept vM_fitting vM_firstSet vM_inAll vM_inAny vM_at vM_sort vM_from vM_value vM_fault cM_d cM_e cM_came cM_got cM_held cM_off u20.2) rfl rfl rfl rfl rfl (by decide +kernel) rfl rfl (Nat.le_of_ble_eq_true rfl) ⟨Nat.zero_le _, Nat.zero_le _⟩ dX8_needs_29 (fun H locs hP hD hS => ?_)
      obtain rfl := Option.some.inj h
      exact hret _ _ _ _ _ hP hD hS dX8_needs_32 rfl rfl
  · have h := br_pos c2 h
    refine lv_aload_n hx hb dX8_needs_12 rfl (lv_at hl 0 rfl) ?_
    refine lv_iconst (v := 0) hx hb dX8_needs_13 (by decide) ?_
    obtain ⟨u21, hu21, h⟩ := bd_some h
    refine cl_Vi (rest := []) F hK hP hD hS hA hl (t_X8_finds l D cyI cyJ cyZ cyB cyO aM aM_found aM_d aM_e aM_f aM_kept aM_tape aM_came aM_got aM_held aM_off aM_comesUp aM_comesDown aM_path aM_gets aM_gotNow aM_bitsOf aM_sizeOf aM_number aM_passing vM_isKept vM_taped vM_leaked vM_keptAll vM_offAll vM_up vM_down vM_sharesUp vM_sharesDown vM_onUp vM_onDown vM_great vM_triedOff vM_triedLeaked vM_triedKept vM_fitting vM_firstSet vM_inAll vM_inAny vM_at vM_sort vM_from vM_value vM_fault cM_found (0 : Int32) u21 hu21) (cwV 1 hts gX8_needs_X8_finds rfl rfl rfl (by decide +kernel) ⟨Nat.le_of_ble_eq_true rfl, Nat.le_of_ble_eq_true rfl⟩) 0 [0, 7] [1, 0, 0, 0, 0, 0, 0, 2] [] (w_X8_needs cyI cyJ cyZ cyB cyO aM aM_d aM_e aM_came aM_got aM_held aM_off aM_found aM_f aM_kept aM_tape aM_comesUp aM_comesDown aM_path aM_gets aM_gotNow aM_bitsOf aM_sizeOf aM_number aM_passing vM_isKept vM_taped vM_leaked vM_keptAll vM_offAll vM_up vM_down vM_sharesUp vM_sharesDown vM_onUp vM_onDown vM_great vM_triedOff vM_triedLeaked vM_triedKept vM_fitting vM_firstSet vM_inAll vM_inAny vM_at vM_sort vM_from vM_value vM_fault cM_d cM_e cM_came cM_got cM_held cM_off u21.2) rfl rfl rfl rfl rfl (by decide +kernel) rfl rfl (Nat.le_of_ble_eq_true rfl) ⟨Nat.zero_le _, Nat.zero_le _⟩ dX8_needs_14 (fun H locs hP hD hS => ?_)
    obtain rfl := Option.some.inj h
    exact hret _ _ _ _ _ hP hD hS dX8_needs_17 rfl rfl
/-! ===== X8_isEven ===== -/
def w_X8_isEven (cyI cyJ cyZ cyB cyO : ClassId) (aM aM_d aM_came aM_got aM_held aM_off aM_e aM_f aM_kept aM_found aM_tape aM_comesUp aM_comesDown aM_path aM_gets aM_gotNow aM_bitsOf aM_sizeOf aM_number aM_passing : Nat) (vM_isKept : Int32) (vM_taped : Int32) (vM_leaked : Int32) (vM_keptAll : Int32) (vM_offAll : Int32) (vM_up : Int64) (vM_down : Int64) (vM_sharesUp : Int64) (vM_sharesDown : Int64) (vM_onUp : Int64) (vM_onDown : Int64) (vM_great : Int32) (vM_triedOff : Int32) (vM_triedLeaked : Int32) (vM_triedKept : Int32) (vM_fitting : Int32) (vM_firstSet : Int32) (vM_inAll : Int32) (vM_inAny : Int32) (vM_at : Int32) (vM_sort : Int32) (vM_from : Int32) (vM_value : Int64) (vM_fault : Int32) (cM_d : Nat → Int32) (cM_came : Nat → Int32) (cM_got : Nat → Int32) (cM_held : Nat → Int32) (cM_off : Nat → Int32) : va_W := [(aM, .inr (7, [.ref aM_d, .ref aM_e, .ref aM_f, .ref aM_kept, .int vM_isKept, .ref aM_found, .ref aM_tape, .int vM_taped, .ref aM_came, .ref aM_got, .ref aM_held, .ref aM_off, .int vM_leaked, .int vM_keptAll, .int vM_offAll, .ref aM_comesUp, .ref aM_comesDown, .long vM_up, .long vM_down, .long vM_sharesUp, .long vM_sharesDown, .long vM_onUp, .long vM_onDown, .int vM_great, .ref aM_path, .ref aM_gets, .int vM_triedOff, .int vM_triedLeaked, .int vM_triedKept, .ref aM_gotNow, .int vM_fitting, .int vM_firstSet, .int vM_inAll, .int vM_inAny, .int vM_at, .int vM_sort, .int vM_from, .long vM_value, .int vM_fault, .ref aM_bitsOf, .ref aM_sizeOf, .ref aM_number, .ref aM_passing])), (aM_d, .inl (cyI, 64, .inl cM_d)), (aM_came, .inl (cyI, 10, .inl cM_came)), (aM_got, .inl (cyI, 10, .inl cM_got)), (aM_held, .inl (cyI, 10, .inl cM_held)), (aM_off, .inl (cyI, 10, .inl cM_off))]
set_option maxHeartbeats 4000000 in
set_option maxRecDepth 100000 in
theorem t_X8_isEven (l : Launch) (D : va_G) (cyI cyJ cyZ cyB cyO : ClassId) (aM aM_d aM_came aM_got aM_held aM_off aM_e aM_f aM_kept aM_found aM_tape aM_comesUp aM_comesDown aM_path aM_gets aM_gotNow aM_bitsOf aM_sizeOf aM_number aM_passing : Nat) (vM_isKept : Int32) (vM_taped : Int32) (vM_leaked : Int32) (vM_keptAll : Int32) (vM_offAll : Int32) (vM_up : Int64) (vM_down : Int64) (vM_sharesUp : Int64) (vM_sharesDown : Int64) (vM_onUp : Int64) (vM_onDown : Int64) (vM_great : Int32) (vM_triedOff : Int32) (vM_triedLeaked : Int32) (vM_triedKept : Int32) (vM_fitting : Int32) (vM_firstSet : Int32) (vM_inAll : Int32) (vM_inAny : Int32) (vM_at : Int32) (vM_sort : Int32) (vM_from : Int32) (vM_value : Int64) (vM_fault : Int32) (cM_d : Nat → Int32) (cM_came : Nat → Int32) (cM_got : Nat → Int32) (cM_held : Nat → Int32) (cM_off : Nat → Int32) (out : Int32 × Int32 × Int32 × Int32 × (Nat → Int32) × (Nat → Int32) × (Nat → Int32) × (Nat → Int32)) (h : f_X8_isEven vM_leaked vM_keptAll vM_offAll cM_d cM_came cM_got cM_held cM_off = some out) : Mi l yX8_isEven wsX8_isEven ({ frames := 3, cells := 0, slots := 0, locals := 74 } : Room) D (tyA cyI cyJ cyZ cyB cyO) [.ref aM] (w_X8_isEven cyI cyJ cyZ cyB cyO aM aM_d aM_came aM_got aM_held aM_off aM_e aM_f aM_kept aM_found aM_tape aM_comesUp aM_comesDown aM_path aM_gets aM_gotNow aM_bitsOf aM_sizeOf aM_number aM_passing vM_isKept vM_taped vM_leaked vM_keptAll vM_offAll vM_up vM_down vM_sharesUp vM_sharesDown vM_onUp vM_onDown vM_great vM_triedOff vM_triedLeaked vM_triedKept vM_fitting vM_firstSet vM_inAll vM_inAny vM_at vM_sort vM_from vM_value vM_fault cM_d cM_came cM_got cM_held cM_off) (w_X8_isEven cyI cyJ cyZ cyB cyO aM aM_d aM_came aM_got aM_held aM_off aM_e aM_f aM_kept aM_found aM_tape aM_comesUp aM_comesDown aM_path aM_gets aM_gotNow aM_bitsOf aM_sizeOf aM_number aM_passing vM_isKept vM_taped out.2.1 out.2.2.1 out.2.2.2.1 vM_up vM_down vM_sharesUp vM_sharesDown vM_onUp vM_onDown vM_great vM_triedOff vM_triedLeaked vM_triedKept vM_fitting vM_firstSet vM_inAll vM_inAny vM_at vM_sort vM_from vM_value vM_fault cM_d out.2.2.2.2.1 out.2.2.2.2.2.1 out.2.2.2.2.2.2.1 out.2.2.2.2.2.2.2) out.1 := by
  refine Mi.mk (cc := cX8_isEven) (maxL := 2) (rt := .boolean) (own := RX8) (by decide) rfl rfl (Nat.le_of_ble_eq_true rfl) ?_
  intro p e s m args below meth c A Q F hK hP hD hA hret ls hl
  obtain ⟨hx, hb, hml, hown, hts⟩ := id F
  have hS : va_S A s.heap s.heap [] := va_S.rf
  have hl : lv_has ls 2 [(0, .ref aM)] := hl
  have in_X8 : ∀ w ∈ wsX80, w ∈ wsX8_isEven := by decide +kernel
  have q3 := hts (Cond.methodLink RX8 102 yX8_look) (List.mem_of_getElem? (i := 3) rfl)
  have q1 := hts (Cond.fieldLink RX8 7 "ThirdFountainModel" "d" "[I") (List.mem_of_getElem? (i := 1) rfl)
  have q2 := hts (Cond.fieldLink RX8 38 "ThirdFountainModel" "off" "[I") (List.mem_of_getElem? (i := 2) rfl)
  have q27 := hts (Cond.methodLink RX8 98 yX8_edgesBelow) (List.mem_of_getElem? (i := 27) rfl)
  unfold f_X8_isEven at h
  refine lv_aload_n hx hb dX8_isEven_0 rfl (lv_at hl 0 rfl) ?_
  obtain ⟨u1, hu1, h⟩ := bd_some h
  refine cl_Vv (rest := []) F hK hP hD hS hA hl (t_X8_look l D cyI cyJ cyZ cyB cyO aM aM_d aM_came aM_got aM_held aM_off aM_e aM_f aM_kept aM_found aM_tape aM_comesUp aM_comesDown aM_path aM_gets aM_gotNow aM_bitsOf aM_sizeOf aM_number aM_passing vM_isKept vM_taped vM_leaked vM_keptAll vM_offAll vM_up vM_down vM_sharesUp vM_sharesDown vM_onUp vM_onDown vM_great vM_triedOff vM_triedLeaked vM_triedKept vM_fitting vM_firstSet vM_inAll vM_inAny vM_at vM_sort vM_from vM_value vM_fault cM_d cM_came cM_got cM_held cM_off u1 hu1) (cwV 0 hts gX8_isEven_X8_look rfl rfl rfl (by decide +kernel) ⟨Nat.le_of_ble_eq_true rfl, Nat.le_of_ble_eq_true rfl⟩) 0 [0, 1, 2, 3, 4, 5] [1, 2, 3, 4, 5, 6] [] (w_X8_isEven cyI cyJ cyZ cyB cyO aM aM_d aM_came aM_got aM_held aM_off aM_e aM_f aM_kept aM_found aM_tape aM_comesUp aM_comesDown aM_path aM_gets aM_gotNow aM_bitsOf aM_sizeOf aM_number aM_passing vM_isKept vM_taped u1.1 u1.2.1 u1.2.2.1 vM_up vM_down vM_sharesUp vM_sharesDown vM_onUp vM_onDown vM_great vM_triedOff vM_triedLeaked vM_triedKept vM_fitting vM_firstSet vM_inAll vM_inAny vM_at vM_sort vM_from vM_value vM_fault cM_d u1.2.2.2.1 u1.2.2.2.2.1 u1.2.2.2.2.2.1 u1.2.2.2.2.2.2) rfl rfl rfl rfl rfl (by decide +kernel) rfl rfl (Nat.le_of_ble_eq_true rfl) ⟨Nat.zero_le _, Nat.zero_le _⟩ dX8_isEven_1 (fun H locs hP hD hS => ?_)
  refine lv_iconst (v := 0) hx hb dX8_isEven_4 (by decide) ?_
  refine lv_istore_n (lv' := [(1, .int (0 : Int32)), (0, .ref aM)]) hx hb dX8_isEven_5 rfl hl (by decide) rfl (fun ls hl => ?_)
  have lp6 : ∀ (k6 : Nat) (y1 : Int32) (vM_leaked : Int32) (vM_keptAll : Int32) (vM_offAll : Int32) (cM_came : Nat → Int32) (cM_got : Nat → Int32) (cM_held : Nat → Int32) (cM_off : Nat → Int32) (H : Heap) (locs : List Loc) (ls : Array Slot), va_P D vwCl (w_X8_isEven cyI cyJ cyZ cyB cyO aM aM_d aM_came aM_got aM_held aM_off aM_e aM_f aM_kept aM_found aM_tape aM_comesUp aM_comesDown aM_path aM_gets aM_gotNow aM_bitsOf aM_sizeOf aM_number aM_passing vM_isKept vM_taped vM_leaked vM_keptAll vM_offAll vM_up vM_down vM_sharesUp vM_sharesDown vM_onUp vM_onDown vM_great vM_triedOff vM_triedLeaked vM_triedKept vM_fitting vM_firstSet vM_inAll vM_inAny vM_at vM_sort vM_from vM_value vM_fault cM_d cM_came cM_got cM_held cM_off) H → va_D A (w_X8_isEven cyI cyJ cyZ cyB cyO aM aM_d aM_came aM_got aM_held aM_off aM_e aM_f aM_kept aM_found aM_tape aM_comesUp aM_comesDown aM_path aM_gets aM_gotNow aM_bitsOf aM_sizeOf aM_number aM_passing vM_isKept vM_taped vM_leaked vM_keptAll vM_offAll vM_up vM_down vM_sharesUp vM_sharesDown vM_onUp vM_onDown vM_great vM_triedOff vM_triedLeaked vM_triedKept vM_fitting vM_firstSet vM_inAll vM_inAny vM_at vM_sort vM_from vM_value vM_fault cM_d cM_came cM_got cM_held cM_off) → va_S A s.heap H locs → lv_has ls 2 [(1, .int y1), (0, .ref aM)] → (f_X8_isEven_L6 cM_d k6) (y1, vM_leaked, vM_keptAll, vM_offAll, cM_came, cM_got, cM_held, cM_off) = some out → W p l e ({ frames := 3, cells := 0, slots := 0, locals := 74 } : Room) s m args below meth c H locs 0 0 Q (F0 m 6 ls []) := by
    intro k6
    induction k6 with
    | zero => intro y1 vM_leaked vM_keptAll vM_offAll cM_came cM_got cM_held cM_off H locs ls hP hD hS hl h; cases h
    | succ k6 ih6 =>
      intro y1 vM_leaked vM_keptAll vM_offAll cM_came cM_got cM_held cM_off H locs ls hP hD hS hl h
      have h : f_X8_isEven_L6_b cM_d (f_X8_isEven_L6 cM_d k6) y1 vM_leaked vM_keptAll vM_offAll cM_came cM_got cM_held cM_off = some out := h
      unfold f_X8_isEven_L6_b at h
      refine lv_iload_n hx hb dX8_isEven_6 rfl (lv_at hl 0 rfl) ?_
      refine lv_aload_n hx hb dX8_isEven_7 rfl (lv_at hl 1 rfl) ?_
      refine va_get (D := D) (ci := 7) (v := .ref aM_d) (C := RX8) (T := TX8) (N := 43) hx hb hts in_X8 hown hK hP 0 rfl rfl 0 (by decide) q1 (fun _ h9 => h9) rfl dX8_isEven_8 ?_
      refine lv_iconst (v := 0) hx hb dX8_isEven_11 (by decide) ?_
      refine va_iald hx hb hK hP 1 0 rfl rfl (by unfold vp_in; decide) dX8_isEven_12 ?_
      refine lv_icmp_ge (tgt := 41) hx hb dX8_isEven_13 (by decide) (fun c2 => ?_) (fun c2 => ?_)
      · have h := br_pos c2 h
        refine lv_iconst (v := 1) hx hb dX8_isEven_41 (by decide) ?_
        obtain rfl := Option.some.inj h
        exact hret _ _ _ _ _ hP hD hS dX8_isEven_42 (nz_of (Or.inr rfl)) rfl
      · have h := br_neg c2 h
        refine lv_aload_n hx hb dX8_isEven_16 rfl (lv_at hl 1 rfl) ?_
        refine va_get (D := D) (ci := 7) (v := .ref aM_off) (C := RX8) (T := TX8) (N := 43) hx hb hts in_X8 hown hK hP 0 rfl rfl 11 (by decide) q2 (fun _ h9 => h9) rfl dX8_isEven_17 ?_
        refine lv_iload_n hx hb dX8_isEven_20 rfl (lv_at hl 0 rfl) ?_
        obtain ⟨g3, h⟩ := gd_some h
        refine va_iald hx hb hK hP 5 0 rfl rfl g3 dX8_isEven_21 ?_
        refine lv_if_le (tgt := 35) hx hb dX8_isEven_22 (by decide) (fun c4 => ?_) (fun c4 => ?_)
        · have h := br_pos c4 h
          refine lv_iinc (v := y1 + 1) (lv' := [(1, .int (y1 + 1)), (0, .ref aM)]) hx hb dX8_isEven_35 hl (k := 0) rfl rfl (by decide) rfl (fun ls hl => ?_)
          refine lv_goto (tgt := 6) hx hb dX8_isEven_38 (by decide) ?_
          exact ih6 (y1 + 1) vM_leaked vM_keptAll vM_offAll cM_came cM_got cM_held cM_off _ _ _ hP hD hS (lv_sub hl [0, 1] rfl) h
        · have h := br_neg c4 h
          refine lv_aload_n hx hb dX8_isEven_25 rfl (lv_at hl 1 rfl) ?_
          refine lv_iload_n hx hb dX8_isEven_26 rfl (lv_at hl 0 rfl) ?_
          obtain ⟨u5, hu5, h⟩ := bd_some h
          refine cl_Vi (rest := []) F hK hP hD hS hA hl (t_X8_edgesBelow l D cyI cyJ cyZ cyB cyO aM aM_d aM_e aM_f aM_kept aM_found aM_tape aM_came aM_got aM_held aM_off aM_comesUp aM_comesDown aM_path aM_gets aM_gotNow aM_bitsOf aM_sizeOf aM_number aM_passing vM_isKept vM_taped vM_leaked vM_keptAll vM_offAll vM_up vM_down vM_sharesUp vM_sharesDown vM_onUp vM_onDown vM_great vM_triedOff vM_triedLeaked vM_triedKept vM_fitting vM_firstSet vM_inAll vM_inAny vM_at vM_sort vM_from vM_value vM_fault cM_d y1 u5 hu5) (cwV 1 hts gX8_isEven_X8_edgesBelow rfl rfl rfl (by decide +kernel) ⟨Nat.le_of_ble_eq_true rfl, Nat.le_of_ble_eq_true rfl⟩) 0 [0, 1] [1, 2, 0, 0, 0, 0] [] (w_X8_isEven cyI cyJ cyZ cyB cyO aM aM_d aM_came aM_got aM_held aM_off aM_e aM_f aM_kept aM_found aM_tape aM_comesUp aM_comesDown aM_path aM_gets aM_gotNow aM_bitsOf aM_sizeOf aM_number aM_passing vM_isKept vM_taped vM_leaked vM_keptAll vM_offAll vM_up vM_down vM_sharesUp vM_sharesDown vM_onUp vM_onDown vM_great vM_triedOff vM_triedLeaked vM_triedKept vM_fitting vM_firstSet vM_inAll vM_inAny vM_at vM_sort vM_from vM_value vM_fault cM_d cM_came cM_got cM_held cM_off) rfl rfl rfl rfl rfl (by decide +kernel) rfl rfl (Nat.le_of_ble_eq_true rfl) ⟨Nat.zero_le _, Nat.zero_le _⟩ dX8_isEven_27 (fun H locs hP hD hS => ?_)
          refine lv_if_le (tgt := 35) hx hb dX8_isEven_30 (by decide) (fun c6 => ?_) (fun c6 => ?_)
          · have h := br_pos c6 h
            refine lv_iinc (v := y1 + 1) (lv' := [(1, .int (y1 + 1)), (0, .ref aM)]) hx hb dX8_isEven_35 hl (k := 0) rfl rfl (by decide) rfl (fun ls hl => ?_)
            refine lv_goto (tgt := 6) hx hb dX8_isEven_38 (by decide) ?_
            exact ih6 (y1 + 1) vM_leaked vM_keptAll vM_offAll cM_came cM_got cM_held cM_off _ _ _ hP hD hS (lv_sub hl [0, 1] rfl) h
          · have h := br_neg c6 h
            refine lv_iconst (v := 0) hx hb dX8_isEven_33 (by decide) ?_
            obtain rfl := Option.some.inj h
            exact hret _ _ _ _ _ hP hD hS dX8_isEven_34 (nz_of (Or.inl rfl)) rfl
  exact lp6 FU (0 : Int32) u1.1 u1.2.1 u1.2.2.1 u1.2.2.2.1 u1.2.2.2.2.1 u1.2.2.2.2.2.1 u1.2.2.2.2.2.2 _ _ _ hP hD hS (lv_sub hl [0, 1] rfl) h
/-! ===== X8_even ===== -/
def w_X8_even (cyI cyJ cyZ cyB cyO : ClassId) (aM aM_d aM_came aM_got aM_held aM_off aM_found aM_e aM_f aM_kept aM_tape aM_comesUp aM_comesDown aM_path aM_gets aM_gotNow aM_bitsOf aM_sizeOf aM_number aM_passing : Nat) (vM_isKept : Int32) (vM_taped : Int32) (vM_leaked : Int32) (vM_keptAll : Int32) (vM_offAll : Int32) (vM_up : Int64) (vM_down : Int64) (vM_sharesUp : Int64) (vM_sharesDown : Int64) (vM_onUp : Int64) (vM_onDown : Int64) (vM_great : Int32) (vM_triedOff : Int32) (vM_triedLeaked : Int32) (vM_triedKept : Int32) (vM_fitting : Int32) (vM_firstSet : Int32) (vM_inAll : Int32) (vM_inAny : Int32) (vM_at : Int32) (vM_sort : Int32) (vM_from : Int32) (vM_value : Int64) (vM_fault : Int32) (cM_d : Nat → Int32) (cM_came : Nat → Int32) (cM_got : Nat → Int32) (cM_held : Nat → Int32) (cM_off : Nat → Int32) (cM_found : Nat → Int32) : va_W := [(aM, .inr (7, [.ref aM_d, .ref aM_e, .ref aM_f, .ref aM_kept, .int vM_isKept, .ref aM_found, .ref aM_tape, .int vM_taped, .ref aM_came, .ref aM_got, .ref aM_held, .ref aM_off, .int vM_leaked, .int vM_keptAll, .int vM_offAll, .ref aM_comesUp, .ref aM_comesDown, .long vM_up, .long vM_down, .long vM_sharesUp, .long vM_sharesDown, .long vM_onUp, .long vM_onDown, .int vM_great, .ref aM_path, .ref aM_gets, .int vM_triedOff, .int vM_triedLeaked, .int vM_triedKept, .ref aM_gotNow, .int vM_fitting, .int vM_firstSet, .int vM_inAll, .int vM_inAny, .int vM_at, .int vM_sort, .int vM_from, .long vM_value, .int vM_fault, .ref aM_bitsOf, .ref aM_sizeOf, .ref aM_number, .ref aM_passing])), (aM_d, .inl (cyI, 64, .inl cM_d)), (aM_came, .inl (cyI, 10, .inl cM_came)), (aM_got, .inl (cyI, 10, .inl cM_got)), (aM_held, .inl (cyI, 10, .inl cM_held)), (aM_off, .inl (cyI, 10, .inl cM_off)), (aM_found, .inl (cyI, 7, .inl cM_found))]
set_option maxHeartbeats 4000000 in
set_option maxRecDepth 100000 in
theorem t_X8_even (l : Launch) (D : va_G) (cyI cyJ cyZ cyB cyO : ClassId) (aM aM_d aM_came aM_got aM_held aM_off aM_found aM_e aM_f aM_kept aM_tape aM_comesUp aM_comesDown aM_path aM_gets aM_gotNow aM_bitsOf aM_sizeOf aM_number aM_passing : Nat) (vM_isKept : Int32) (vM_taped : Int32) (vM_leaked : Int32) (vM_keptAll : Int32) (vM_offAll : Int32) (vM_up : Int64) (vM_down : Int64) (vM_sharesUp : Int64) (vM_sharesDown : Int64) (vM_onUp : Int64) (vM_onDown : Int64) (vM_great : Int32) (vM_triedOff : Int32) (vM_triedLeaked : Int32) (vM_triedKept : Int32) (vM_fitting : Int32) (vM_firstSet : Int32) (vM_inAll : Int32) (vM_inAny : Int32) (vM_at : Int32) (vM_sort : Int32) (vM_from : Int32) (vM_value : Int64) (vM_fault : Int32) (cM_d : Nat → Int32) (cM_came : Nat → Int32) (cM_got : Nat → Int32) (cM_held : Nat → Int32) (cM_off : Nat → Int32) (cM_found : Nat → Int32) (out : Int32 × Int32 × Int32 × Int32 × (Nat → Int32) × (Nat → Int32) × (Nat → Int32) × (Nat → Int32) × (Nat → Int32) × (Nat → Int32)) (h : f_X8_even vM_leaked vM_keptAll vM_offAll cM_d cM_came cM_got cM_held cM_off cM_found = some out) : Mi l yX8_even wsX8_even ({ frames := 4, cells := 0, slots := 0, locals := 95 } : Room) D (tyA cyI cyJ cyZ cyB cyO) [.ref aM] (w_X8_even cyI cyJ cyZ cyB cyO aM aM_d aM_came aM_got aM_held aM_off aM_found aM_e aM_f aM_kept aM_tape aM_comesUp aM_comesDown aM_path aM_gets aM_gotNow aM_bitsOf aM_sizeOf aM_number aM_passing vM_isKept vM_taped vM_leaked vM_keptAll vM_offAll vM_up vM_down vM_sharesUp vM_sharesDown vM_onUp vM_onDown vM_great vM_triedOff vM_triedLeaked vM_triedKept vM_fitting vM_firstSet vM_inAll vM_inAny vM_at vM_sort vM_from vM_value vM_fault cM_d cM_came cM_got cM_held cM_off cM_found) (w_X8_even cyI cyJ cyZ cyB cyO aM aM_d aM_came aM_got aM_held aM_off aM_found aM_e aM_f aM_kept aM_tape aM_comesUp aM_comesDown aM_path aM_gets aM_gotNow aM_bitsOf aM_sizeOf aM_number aM_passing vM_isKept vM_taped out.2.1 out.2.2.1 out.2.2.2.1 vM_up vM_down vM_sharesUp vM_sharesDown vM_onUp vM_onDown vM_great vM_triedOff vM_triedLeaked vM_triedKept vM_fitting vM_firstSet vM_inAll vM_inAny vM_at vM_sort vM_from vM_value vM_fault out.2.2.2.2.1 out.2.2.2.2.2.1 out.2.2.2.2.2.2.1 out.2.2.2.2.2.2.2.1 out.2.2.2.2.2.2.2.2.1 out.2.2.2.2.2.2.2.2.2) out.1 := by
  refine Mi.mk (cc := cX8_even) (maxL := 4) (rt := .int) (own := RX8) (by decide) rfl rfl (Nat.le_of_ble_eq_true rfl) ?_
  intro p e s m args below meth c A Q F hK hP hD hA hret ls hl
  obtain ⟨hx, hb, hml, hown, hts⟩ := id F
  have hS : va_S A s.heap s.heap [] := va_S.rf
  have hl : lv_has ls 4 [(0, .ref aM)] := hl
  have in_X8 : ∀ w ∈ wsX80, w ∈ wsX8_even := by decide +kernel
  have q1 := hts (Cond.fieldLink RX8 7 "ThirdFountainModel" "d" "[I") (List.mem_of_getElem? (i := 1) rfl)
  have q2 := hts (Cond.methodLink RX8 115 yX8_finds) (List.mem_of_getElem? (i := 2) rfl)
  have q9 := hts (Cond.methodLink RX8 197 yX8_isEven) (List.mem_of_getElem? (i := 9) rfl)
  unfold f_X8_even at h
  refine lv_aload_n hx hb dX8_even_0 rfl (lv_at hl 0 rfl) ?_
  refine va_get (D := D) (ci := 7) (v := .ref aM_d) (C := RX8) (T := TX8) (N := 43) hx hb hts in_X8 hown hK hP 0 rfl rfl 0 (by decide) q1 (fun _ h9 => h9) rfl dX8_even_1 ?_
  refine lv_iconst (v := 0) hx hb dX8_even_4 (by decide) ?_
  refine va_iald hx hb hK hP 1 0 rfl rfl (by unfold vp_in; decide) dX8_even_5 ?_
  refine lv_if_ne (tgt := 15) hx hb dX8_even_6 (by decide) (fun c1 => ?_) (fun c1 => ?_)
  · have h := br_neg c1 h
    refine lv_aload_n hx hb dX8_even_15 rfl (lv_at hl 0 rfl) ?_
    refine va_get (D := D) (ci := 7) (v := .ref aM_d) (C := RX8) (T := TX8) (N := 43) hx hb hts in_X8 hown hK hP 0 rfl rfl 0 (by decide) q1 (fun _ h9 => h9) rfl dX8_even_16 ?_
    refine lv_iconst (v := 3) hx hb dX8_even_19 (by decide) ?_
    refine va_iald hx hb hK hP 1 0 rfl rfl (by unfold vp_in; decide) dX8_even_20 ?_
    refine lv_topi (fun z2 ez2 => ?_)
    have h := nm_at ez2 h
    refine lv_istore_n (lv' := [(1, .int z2), (0, .ref aM)]) hx hb dX8_even_21 rfl hl (by decide) rfl (fun ls hl => ?_)
    refine lv_iconst (v := 1) hx hb dX8_even_22 (by decide) ?_
    refine lv_istore_n (lv' := [(2, .int (1 : Int32)), (1, .int z2), (0, .ref aM)]) hx hb dX8_even_23 rfl hl (by decide) rfl (fun ls hl => ?_)
    refine lv_iconst (v := 0) hx hb dX8_even_24 (by decide) ?_
    refine lv_istore_n (lv' := [(3, .int (0 : Int32)), (2, .int (1 : Int32)), (1, .int z2), (0, .ref aM)]) hx hb dX8_even_25 rfl hl (by decide) rfl (fun ls hl => ?_)
    have lp26 : ∀ (k26 : Nat) (y1 : Int32) (y2 : Int32) (y3 : Int32) (vM_leaked : Int32) (vM_keptAll : Int32) (vM_offAll : Int32) (cM_d : Nat → Int32) (cM_came : Nat → Int32) (cM_got : Nat → Int32) (cM_held : Nat → Int32) (cM_off : Nat → Int32) (cM_found : Nat → Int32) (H : Heap) (locs : List Loc) (ls : Array Slot), va_P D vwCl (w_X8_even cyI cyJ cyZ cyB cyO aM aM_d aM_came aM_got aM_held aM_off aM_found aM_e aM_f aM_kept aM_tape aM_comesUp aM_comesDown aM_path aM_gets aM_gotNow aM_bitsOf aM_sizeOf aM_number aM_passing vM_isKept vM_taped vM_leaked vM_keptAll vM_offAll vM_up vM_down vM_sharesUp vM_sharesDown vM_onUp vM_onDown vM_great vM_triedOff vM_triedLeaked vM_triedKept vM_fitting vM_firstSet vM_inAll vM_inAny vM_at vM_sort vM_from vM_value vM_fault cM_d cM_came cM_got cM_held cM_off cM_found) H → va_D A (w_X8_even cyI cyJ cyZ cyB cyO aM aM_d aM_came aM_got aM_held aM_off aM_found aM_e aM_f aM_kept aM_tape aM_comesUp aM_comesDown aM_path aM_gets aM_gotNow aM_bitsOf aM_sizeOf aM_number aM_passing vM_isKept vM_taped vM_leaked vM_keptAll vM_offAll vM_up vM_down vM_sharesUp vM_sharesDown vM_onUp vM_onDown vM_great vM_triedOff vM_triedLeaked vM_triedKept vM_fitting vM_firstSet vM_inAll vM_inAny vM_at vM_sort vM_from vM_value vM_fault cM_d cM_came cM_got cM_held cM_off cM_found) → va_S A s.heap H locs → lv_has ls 4 [(1, .int y1), (2, .int y2), (3, .int y3), (0, .ref aM)] → (f_X8_even_L26 k26) (y1, y2, y3, vM_leaked, vM_keptAll, vM_offAll, cM_d, cM_came, cM_got, cM_held, cM_off, cM_found) = some out → W p l e ({ frames := 4, cells := 0, slots := 0, locals := 95 } : Room) s m args below meth c H locs 0 0 Q (F0 m 26 ls []) := by
      intro k26
      induction k26 with
      | zero => intro y1 y2 y3 vM_leaked vM_keptAll vM_offAll cM_d cM_came cM_got cM_held cM_off cM_found H locs ls hP hD hS hl h; cases h
      | succ k26 ih26 =>
        intro y1 y2 y3 vM_leaked vM_keptAll vM_offAll cM_d cM_came cM_got cM_held cM_off cM_found H locs ls hP hD hS hl h
        have h : f_X8_even_L26_b (f_X8_even_L26 k26) y1 y2 y3 vM_leaked vM_keptAll vM_offAll cM_d cM_came cM_got cM_held cM_off cM_found = some out := h
        unfold f_X8_even_L26_b at h
        refine lv_iload_n hx hb dX8_even_26 rfl (lv_at hl 2 rfl) ?_
        have j64 : ∀ (y1 : Int32) (y2 : Int32) (y3 : Int32) (vM_leaked : Int32) (vM_keptAll : Int32) (vM_offAll : Int32) (cM_d : Nat → Int32) (cM_came : Nat → Int32) (cM_got : Nat → Int32) (cM_held : Nat → Int32) (cM_off : Nat → Int32) (cM_found : Nat → Int32) (H : Heap) (locs : List Loc) (ls : Array Slot), va_P D vwCl (w_X8_even cyI cyJ cyZ cyB cyO aM aM_d aM_came aM_got aM_held aM_off aM_found aM_e aM_f aM_kept aM_tape aM_comesUp aM_comesDown aM_path aM_gets aM_gotNow aM_bitsOf aM_sizeOf aM_number aM_passing vM_isKept vM_taped vM_leaked vM_keptAll vM_offAll vM_up vM_down vM_sharesUp vM_sharesDown vM_onUp vM_onDown vM_great vM_triedOff vM_triedLeaked vM_triedKept vM_fitting vM_firstSet vM_inAll vM_inAny vM_at vM_sort vM_from vM_value vM_fault cM_d cM_came cM_got cM_held cM_off cM_found) H → va_D A (w_X8_even cyI cyJ cyZ cyB cyO aM aM_d aM_came aM_got aM_held aM_off aM_found aM_e aM_f aM_kept aM_tape aM_comesUp aM_comesDown aM_path aM_gets aM_gotNow aM_bitsOf aM_sizeOf aM_number aM_passing vM_isKept vM_taped vM_leaked vM_keptAll vM_offAll vM_up vM_down vM_sharesUp vM_sharesDown vM_onUp vM_onDown vM_great vM_triedOff vM_triedLeaked vM_triedKept vM_fitting vM_firstSet vM_inAll vM_inAny vM_at vM_sort vM_from vM_value vM_fault cM_d cM_came cM_got cM_held cM_off cM_found) → va_S A s.heap H locs → lv_has ls 4 [(1, .int y1), (2, .int y2), (3, .int y3), (0, .ref aM)] → f_X8_even_J64 y1 y2 y3 vM_leaked vM_keptAll vM_offAll cM_d cM_came cM_got cM_held cM_off cM_found = some out → W p l e ({ frames := 4, cells := 0, slots := 0, locals := 95 } : Room) s m args below meth c H locs 0 0 Q (F0 m 64 ls []) := by
          intro y1 y2 y3 vM_leaked vM_keptAll vM_offAll cM_d cM_came cM_got cM_held cM_off cM_found H locs ls hP hD hS hl h
          unfold f_X8_even_J64 at h
          refine lv_aload_n hx hb dX8_even_64 rfl (lv_at hl 3 rfl) ?_
          refine va_get (D := D) (ci := 7) (v := .ref aM_d) (C := RX8) (T := TX8) (N := 43) hx hb hts in_X8 hown hK hP 0 rfl rfl 0 (by decide) q1 (fun _ h9 => h9) rfl dX8_even_65 ?_
          refine lv_iconst (v := 3) hx hb dX8_even_68 (by decide) ?_
          refine lv_iload_n hx hb dX8_even_69 rfl (lv_at hl 0 rfl) ?_
          refine va_iast hx hb hK hP hD hS 1 0 rfl rfl (by unfold vp_in; decide) dX8_even_70 (fun H locs hP hD hS => ?_)
          have hP : va_P D vwCl (w_X8_even cyI cyJ cyZ cyB cyO aM aM_d aM_came aM_got aM_held aM_off aM_found aM_e aM_f aM_kept aM_tape aM_comesUp aM_comesDown aM_path aM_gets aM_gotNow aM_bitsOf aM_sizeOf aM_number aM_passing vM_isKept vM_taped vM_leaked vM_keptAll vM_offAll vM_up vM_down vM_sharesUp vM_sharesDown vM_onUp vM_onDown vM_great vM_triedOff vM_triedLeaked vM_triedKept vM_fitting vM_firstSet vM_inAll vM_inAny vM_at vM_sort vM_from vM_value vM_fault (upd cM_d (3 : Int32).toNatClampNeg y1) cM_came cM_got cM_held cM_off cM_found) H := hP
          have hD : va_D A (w_X8_even cyI cyJ cyZ cyB cyO aM aM_d aM_came aM_got aM_held aM_off aM_found aM_e aM_f aM_kept aM_tape aM_comesUp aM_comesDown aM_path aM_gets aM_gotNow aM_bitsOf aM_sizeOf aM_number aM_passing vM_isKept vM_taped vM_leaked vM_keptAll vM_offAll vM_up vM_down vM_sharesUp vM_sharesDown vM_onUp vM_onDown vM_great vM_triedOff vM_triedLeaked vM_triedKept vM_fitting vM_firstSet vM_inAll vM_inAny vM_at vM_sort vM_from vM_value vM_fault (upd cM_d (3 : Int32).toNatClampNeg y1) cM_came cM_got cM_held cM_off cM_found) := hD
          refine lv_iload_n hx hb dX8_even_71 rfl (lv_at hl 2 rfl) ?_
          refine lv_if_eq (tgt := 79) hx hb dX8_even_72 (by decide) (fun c3 => ?_) (fun c3 => ?_)
          · have h := br_pos c3 h
            refine lv_aload_n hx hb dX8_even_79 rfl (lv_at hl 3 rfl) ?_
            refine lv_iconst (v := 3) hx hb dX8_even_80 (by decide) ?_
            obtain ⟨u4, hu4, h⟩ := bd_some h
            refine cl_Vi (rest := []) F hK hP hD hS hA hl (t_X8_finds l D cyI cyJ cyZ cyB cyO aM aM_found aM_d aM_e aM_f aM_kept aM_tape aM_came aM_got aM_held aM_off aM_comesUp aM_comesDown aM_path aM_gets aM_gotNow aM_bitsOf aM_sizeOf aM_number aM_passing vM_isKept vM_taped vM_leaked vM_keptAll vM_offAll vM_up vM_down vM_sharesUp vM_sharesDown vM_onUp vM_onDown vM_great vM_triedOff vM_triedLeaked vM_triedKept vM_fitting vM_firstSet vM_inAll vM_inAny vM_at vM_sort vM_from vM_value vM_fault cM_found (3 : Int32) u4 hu4) (cwV 1 hts gX8_even_X8_finds rfl rfl rfl (by decide +kernel) ⟨Nat.le_of_ble_eq_true rfl, Nat.le_of_ble_eq_true rfl⟩) 0 [0, 6] [1, 0, 0, 0, 0, 0, 2] [] (w_X8_even cyI cyJ cyZ cyB cyO aM aM_d aM_came aM_got aM_held aM_off aM_found aM_e aM_f aM_kept aM_tape aM_comesUp aM_comesDown aM_path aM_gets aM_gotNow aM_bitsOf aM_sizeOf aM_number aM_passing vM_isKept vM_taped vM_leaked vM_keptAll vM_offAll vM_up vM_down vM_sharesUp vM_sharesDown vM_onUp vM_onDown vM_great vM_triedOff vM_triedLeaked vM_triedKept vM_fitting vM_firstSet vM_inAll vM_inAny vM_at vM_sort vM_from vM_value vM_fault (upd cM_d (3 : Int32).toNatClampNeg y1) cM_came cM_got cM_held cM_off u4.2) rfl rfl rfl rfl rfl (by decide +kernel) rfl rfl (Nat.le_of_ble_eq_true rfl) ⟨Nat.zero_le _, Nat.zero_le _⟩ dX8_even_81 (fun H locs hP hD hS => ?_)
            obtain rfl := Option.some.inj h
            exact hret _ _ _ _ _ hP hD hS dX8_even_84 rfl rfl
          · have h := br_neg c3 h
            refine lv_iload_n hx hb dX8_even_75 rfl (lv_at hl 1 rfl) ?_
            refine lv_goto (tgt := 84) hx hb dX8_even_76 (by decide) ?_
            obtain rfl := Option.some.inj h
            exact hret _ _ _ _ _ hP hD hS dX8_even_84 rfl rfl
        refine lv_if_ne (tgt := 64) hx hb dX8_even_27 (by decide) (fun c5 => ?_) (fun c5 => ?_)
        · have h := br_neg c5 h
          exact j64 y1 y2 y3 vM_leaked vM_keptAll vM_offAll cM_d cM_came cM_got cM_held cM_off cM_found _ _ _ hP hD hS (lv_sub hl [0, 1, 2, 3] rfl) h
        · have h := br_pos c5 h
          refine lv_iload_n hx hb dX8_even_30 rfl (lv_at hl 1 rfl) ?_
          refine lv_sipush (v := 9999) hx hb dX8_even_31 (by decide) ?_
          refine lv_icmp_gt (tgt := 64) hx hb dX8_even_34 (by decide) (fun c6 => ?_) (fun c6 => ?_)
          · have h := br_pos c6 h
            exact j64 y1 y2 y3 vM_leaked vM_keptAll vM_offAll cM_d cM_came cM_got cM_held cM_off cM_found _ _ _ hP hD hS (lv_sub hl [0, 1, 2, 3] rfl) h
          · have h := br_neg c6 h
            refine lv_aload_n hx hb dX8_even_37 rfl (lv_at hl 3 rfl) ?_
            refine va_get (D := D) (ci := 7) (v := .ref aM_d) (C := RX8) (T := TX8) (N := 43) hx hb hts in_X8 hown hK hP 0 rfl rfl 0 (by decide) q1 (fun _ h9 => h9) rfl dX8_even_38 ?_
            refine lv_iconst (v := 3) hx hb dX8_even_41 (by decide) ?_
            refine lv_iload_n hx hb dX8_even_42 rfl (lv_at hl 1 rfl) ?_
            refine va_iast hx hb hK hP hD hS 1 0 rfl rfl (by unfold vp_in; decide) dX8_even_43 (fun H locs hP hD hS => ?_)
            have hP : va_P D vwCl (w_X8_even cyI cyJ cyZ cyB cyO aM aM_d aM_came aM_got aM_held aM_off aM_found aM_e aM_f aM_kept aM_tape aM_comesUp aM_comesDown aM_path aM_gets aM_gotNow aM_bitsOf aM_sizeOf aM_number aM_passing vM_isKept vM_taped vM_leaked vM_keptAll vM_offAll vM_up vM_down vM_sharesUp vM_sharesDown vM_onUp vM_onDown vM_great vM_triedOff vM_triedLeaked vM_triedKept vM_fitting vM_firstSet vM_inAll vM_inAny vM_at vM_sort vM_from vM_value vM_fault (upd cM_d (3 : Int32).toNatClampNeg y2) cM_came cM_got cM_held cM_off cM_found) H := hP
            have hD : va_D A (w_X8_even cyI cyJ cyZ cyB cyO aM aM_d aM_came aM_got aM_held aM_off aM_found aM_e aM_f aM_kept aM_tape aM_comesUp aM_comesDown aM_path aM_gets aM_gotNow aM_bitsOf aM_sizeOf aM_number aM_passing vM_isKept vM_taped vM_leaked vM_keptAll vM_offAll vM_up vM_down vM_sharesUp vM_sharesDown vM_onUp vM_onDown vM_great vM_triedOff vM_triedLeaked vM_triedKept vM_fitting vM_firstSet vM_inAll vM_inAny vM_at vM_sort vM_from vM_value vM_fault (upd cM_d (3 : Int32).toNatClampNeg y2) cM_came cM_got cM_held cM_off cM_found) := hD
            refine lv_aload_n hx hb dX8_even_44 rfl (lv_at hl 3 rfl) ?_
            obtain ⟨u7, hu7, h⟩ := bd_some h
            refine cl_Vi (rest := []) F hK hP hD hS hA hl (t_X8_isEven l D cyI cyJ cyZ cyB cyO aM aM_d aM_came aM_got aM_held aM_off aM_e aM_f aM_kept aM_found aM_tape aM_comesUp aM_comesDown aM_path aM_gets aM_gotNow aM_bitsOf aM_sizeOf aM_number aM_passing vM_isKept vM_taped vM_leaked vM_keptAll vM_offAll vM_up vM_down vM_sharesUp vM_sharesDown vM_onUp vM_onDown vM_great vM_triedOff vM_triedLeaked vM_triedKept vM_fitting vM_firstSet vM_inAll vM_inAny vM_at vM_sort vM_from vM_value vM_fault (upd cM_d (3 : Int32).toNatClampNeg y2) cM_came cM_got cM_held cM_off u7 hu7) (cwV 0 hts gX8_even_X8_isEven rfl rfl rfl (by decide +kernel) ⟨Nat.le_of_ble_eq_true rfl, Nat.le_of_ble_eq_true rfl⟩) 0 [0, 1, 2, 3, 4, 5] [1, 2, 3, 4, 5, 6, 0] [] (w_X8_even cyI cyJ cyZ cyB cyO aM aM_d aM_came aM_got aM_held aM_off aM_found aM_e aM_f aM_kept aM_tape aM_comesUp aM_comesDown aM_path aM_gets aM_gotNow aM_bitsOf aM_sizeOf aM_number aM_passing vM_isKept vM_taped u7.2.1 u7.2.2.1 u7.2.2.2.1 vM_up vM_down vM_sharesUp vM_sharesDown vM_onUp vM_onDown vM_great vM_triedOff vM_triedLeaked vM_triedKept vM_fitting vM_firstSet vM_inAll vM_inAny vM_at vM_sort vM_from vM_value vM_fault (upd cM_d (3 : Int32).toNatClampNeg y2) u7.2.2.2.2.1 u7.2.2.2.2.2.1 u7.2.2.2.2.2.2.1 u7.2.2.2.2.2.2.2 cM_found) rfl rfl rfl rfl rfl (by decide +kernel) rfl rfl (Nat.le_of_ble_eq_true rfl) ⟨Nat.zero_le _, Nat.zero_le _⟩ dX8_even_45 (fun H locs hP hD hS => ?_)
            refine lv_istore_n (lv' := [(3, .int u7.1), (1, .int y1), (2, .int y2), (0, .ref aM)]) hx hb dX8_even_48 rfl hl (by decide) rfl (fun ls hl => ?_)
            refine lv_iload_n hx hb dX8_even_49 rfl (lv_at hl 2 rfl) ?_
            refine lv_iload_n hx hb dX8_even_50 rfl (lv_at hl 0 rfl) ?_
            refine lv_if_eq (tgt := 58) hx hb dX8_even_51 (by decide) (fun c8 => ?_) (fun c8 => ?_)
            · have h := br_pos c8 h
              refine lv_iconst (v := 1) hx hb dX8_even_58 (by decide) ?_
              refine lv_iadd hx hb dX8_even_59 ?_
              refine lv_topi (fun z9 ez9 => ?_)
              have h := nm_at ez9 h
              refine lv_istore_n (lv' := [(2, .int z9), (3, .int u7.1), (1, .int y1), (0, .ref aM)]) hx hb dX8_even_60 rfl hl (by decide) rfl (fun ls hl => ?_)
              refine lv_goto (tgt := 26) hx hb dX8_even_61 (by decide) ?_
              exact ih26 y1 z9 u7.1 u7.2.1 u7.2.2.1 u7.2.2.2.1 (upd cM_d (3 : Int32).toNatClampNeg y2) u7.2.2.2.2.1 u7.2.2.2.2.2.1 u7.2.2.2.2.2.2.1 u7.2.2.2.2.2.2.2 cM_found _ _ _ hP hD hS (lv_sub hl [2, 0, 1, 3] rfl) h
            · have h := br_neg c8 h
              refine lv_iconst (v := 0) hx hb dX8_even_54 (by decide) ?_
              refine lv_goto (tgt := 59) hx hb dX8_even_55 (by decide) ?_
              refine lv_iadd hx hb dX8_even_59 ?_
              refine lv_topi (fun z10 ez10 => ?_)
              have h := nm_at ez10 h
              refine lv_istore_n (lv' := [(2, .int z10), (3, .int u7.1), (1, .int y1), (0, .ref aM)]) hx hb dX8_even_60 rfl hl (by decide) rfl (fun ls hl => ?_)
              refine lv_goto (tgt := 26) hx hb dX8_even_61 (by decide) ?_
              exact ih26 y1 z10 u7.1 u7.2.1 u7.2.2.1 u7.2.2.2.1 (upd cM_d (3 : Int32).toNatClampNeg y2) u7.2.2.2.2.1 u7.2.2.2.2.2.1 u7.2.2.2.2.2.2.1 u7.2.2.2.2.2.2.2 cM_found _ _ _ hP hD hS (lv_sub hl [2, 0, 1, 3] rfl) h
    exact lp26 FU z2 (1 : Int32) (0 : Int32) vM_leaked vM_keptAll vM_offAll cM_d cM_came cM_got cM_held cM_off cM_found _ _ _ hP hD hS (lv_sub hl [2, 1, 0, 3] rfl) h
  · have h := br_pos c1 h
    refine lv_aload_n hx hb dX8_even_9 rfl (lv_at hl 0 rfl) ?_
    refine lv_iconst (v := 4) hx hb dX8_even_10 (by decide) ?_
    obtain ⟨u11, hu11, h⟩ := bd_some h
    refine cl_Vi (rest := []) F hK hP hD hS hA hl (t_X8_finds l D cyI cyJ cyZ cyB cyO aM aM_found aM_d aM_e aM_f aM_kept aM_tape aM_came aM_got aM_held aM_off aM_comesUp aM_comesDown aM_path aM_gets aM_gotNow aM_bitsOf aM_sizeOf aM_number aM_passing vM_isKept vM_taped vM_leaked vM_keptAll vM_offAll vM_up vM_down vM_sharesUp vM_sharesDown vM_onUp vM_onDown vM_great vM_triedOff vM_triedLeaked vM_triedKept vM_fitting vM_firstSet vM_inAll vM_inAny vM_at vM_sort vM_from vM_value vM_fault cM_found (4 : Int32) u11 hu11) (cwV 1 hts gX8_even_X8_finds rfl rfl rfl (by decide +kernel) ⟨Nat.le_of_ble_eq_true rfl, Nat.le_of_ble_eq_true rfl⟩) 0 [0, 6] [1, 0, 0, 0, 0, 0, 2] [] (w_X8_even cyI cyJ cyZ cyB cyO aM aM_d aM_came aM_got aM_held aM_off aM_found aM_e aM_f aM_kept aM_tape aM_comesUp aM_comesDown aM_path aM_gets aM_gotNow aM_bitsOf aM_sizeOf aM_number aM_passing vM_isKept vM_taped vM_leaked vM_keptAll vM_offAll vM_up vM_down vM_sharesUp vM_sharesDown vM_onUp vM_onDown vM_great vM_triedOff vM_triedLeaked vM_triedKept vM_fitting vM_firstSet vM_inAll vM_inAny vM_at vM_sort vM_from vM_value vM_fault cM_d cM_came cM_got cM_held cM_off u11.2) rfl rfl rfl rfl rfl (by decide +kernel) rfl rfl (Nat.le_of_ble_eq_true rfl) ⟨Nat.zero_le _, Nat.zero_le _⟩ dX8_even_11 (fun H locs hP hD hS => ?_)
    obtain rfl := Option.some.inj h
    exact hret _ _ _ _ _ hP hD hS dX8_even_14 rfl rfl
/-! ===== X8_isLate ===== -/
def w_X8_isLate (cyI cyJ cyZ cyB cyO : ClassId) (aM aM_d aM_e aM_f aM_kept aM_found aM_tape aM_came aM_got aM_held aM_off aM_comesUp aM_comesDown aM_path aM_gets aM_gotNow aM_bitsOf aM_sizeOf aM_number aM_passing : Nat) (vM_isKept : Int32) (vM_taped : Int32) (vM_leaked : Int32) (vM_keptAll : Int32) (vM_offAll : Int32) (vM_up : Int64) (vM_down : Int64) (vM_sharesUp : Int64) (vM_sharesDown : Int64) (vM_onUp : Int64) (vM_onDown : Int64) (vM_great : Int32) (vM_triedOff : Int32) (vM_triedLeaked : Int32) (vM_triedKept : Int32) (vM_fitting : Int32) (vM_firstSet : Int32) (vM_inAll : Int32) (vM_inAny : Int32) (vM_at : Int32) (vM_sort : Int32) (vM_from : Int32) (vM_value : Int64) (vM_fault : Int32) (cM_d : Nat → Int32) : va_W := [(aM, .inr (7, [.ref aM_d, .ref aM_e, .ref aM_f, .ref aM_kept, .int vM_isKept, .ref aM_found, .ref aM_tape, .int vM_taped, .ref aM_came, .ref aM_got, .ref aM_held, .ref aM_off, .int vM_leaked, .int vM_keptAll, .int vM_offAll, .ref aM_comesUp, .ref aM_comesDown, .long vM_up, .long vM_down, .long vM_sharesUp, .long vM_sharesDown, .long vM_onUp, .long vM_onDown, .int vM_great, .ref aM_path, .ref aM_gets, .int vM_triedOff, .int vM_triedLeaked, .int vM_triedKept, .ref aM_gotNow, .int vM_fitting, .int vM_firstSet, .int vM_inAll, .int vM_inAny, .int vM_at, .int vM_sort, .int vM_from, .long vM_value, .int vM_fault, .ref aM_bitsOf, .ref aM_sizeOf, .ref aM_number, .ref aM_passing])), (aM_d, .inl (cyI, 64, .inl cM_d))]
set_option maxHeartbeats 4000000 in
set_option maxRecDepth 100000 in
theorem t_X8_isLate (l : Launch) (D : va_G) (cyI cyJ cyZ cyB cyO : ClassId) (aM aM_d aM_e aM_f aM_kept aM_found aM_tape aM_came aM_got aM_held aM_off aM_comesUp aM_comesDown aM_path aM_gets aM_gotNow aM_bitsOf aM_sizeOf aM_number aM_passing : Nat) (vM_isKept : Int32) (vM_taped : Int32) (vM_leaked : Int32) (vM_keptAll : Int32) (vM_offAll : Int32) (vM_up : Int64) (vM_down : Int64) (vM_sharesUp : Int64) (vM_sharesDown : Int64) (vM_onUp : Int64) (vM_onDown : Int64) (vM_great : Int32) (vM_triedOff : Int32) (vM_triedLeaked : Int32) (vM_triedKept : Int32) (vM_fitting : Int32) (vM_firstSet : Int32) (vM_inAll : Int32) (vM_inAny : Int32) (vM_at : Int32) (vM_sort : Int32) (vM_from : Int32) (vM_value : Int64) (vM_fault : Int32) (cM_d : Nat → Int32) (x1 : Int32) (out : Int32) (h : f_X8_isLate x1 cM_d = some out) : Mi l yX8_isLate wsX8_isLate ({ frames := 0, cells := 0, slots := 0, locals := 0 } : Room) D (tyA cyI cyJ cyZ cyB cyO) [.ref aM, .int x1] (w_X8_isLate cyI cyJ cyZ cyB cyO aM aM_d aM_e aM_f aM_kept aM_found aM_tape aM_came aM_got aM_held aM_off aM_comesUp aM_comesDown aM_path aM_gets aM_gotNow aM_bitsOf aM_sizeOf aM_number aM_passing vM_isKept vM_taped vM_leaked vM_keptAll vM_offAll vM_up vM_down vM_sharesUp vM_sharesDown vM_onUp vM_onDown vM_great vM_triedOff vM_triedLeaked vM_triedKept vM_fitting vM_firstSet vM_inAll vM_inAny vM_at vM_sort vM_from vM_value vM_fault cM_d) (w_X8_isLate cyI cyJ cyZ cyB cyO aM aM_d aM_e aM_f aM_kept aM_found aM_tape aM_came aM_got aM_held aM_off aM_comesUp aM_comesDown aM_path aM_gets aM_gotNow aM_bitsOf aM_sizeOf aM_number aM_passing vM_isKept vM_taped vM_leaked vM_keptAll vM_offAll vM_up vM_down vM_sharesUp vM_sharesDown vM_onUp vM_onDown vM_great vM_triedOff vM_triedLeaked vM_triedKept vM_fitting vM_firstSet vM_inAll vM_inAny vM_at vM_sort vM_from vM_value vM_fault cM_d) out := by
  refine Mi.mk (cc := cX8_isLate) (maxL := 2) (rt := .boolean) (own := RX8) (by decide) rfl rfl (Nat.le_of_ble_eq_true rfl) ?_
  intro p e s m args below meth c A Q F hK hP hD hA hret ls hl
  obtain ⟨hx, hb, hml, hown, hts⟩ := id F
  have hS : va_S A s.heap s.heap [] := va_S.rf
  have hl : lv_has ls 2 [(0, .ref aM), (1, .int x1)] := hl
  have in_X8 : ∀ w ∈ wsX80, w ∈ wsX8_isLate := by decide +kernel
  have q1 := hts (Cond.fieldLink RX8 7 "ThirdFountainModel" "d" "[I") (List.mem_of_getElem? (i := 1) rfl)
  unfold f_X8_isLate at h
  refine lv_aload_n hx hb dX8_isLate_0 rfl (lv_at hl 0 rfl) ?_
  refine va_get (D := D) (ci := 7) (v := .ref aM_d) (C := RX8) (T := TX8) (N := 43) hx hb hts in_X8 hown hK hP 0 rfl rfl 0 (by decide) q1 (fun _ h9 => h9) rfl dX8_isLate_1 ?_
  refine lv_iconst (v := 1) hx hb dX8_isLate_4 (by decide) ?_
  refine va_iald hx hb hK hP 1 0 rfl rfl (by unfold vp_in; decide) dX8_isLate_5 ?_
  refine lv_iload_n hx hb dX8_isLate_6 rfl (lv_at hl 1 rfl) ?_
  refine lv_iadd hx hb dX8_isLate_7 ?_
  refine lv_sipush (v := 9999) hx hb dX8_isLate_8 (by decide) ?_
  refine lv_icmp_le (tgt := 18) hx hb dX8_isLate_11 (by decide) (fun c1 => ?_) (fun c1 => ?_)
  · have h := br_pos c1 h
    refine lv_iconst (v := 0) hx hb dX8_isLate_18 (by decide) ?_
    obtain rfl := Option.some.inj h
    exact hret _ _ _ _ _ hP hD hS dX8_isLate_19 (nz_of (Or.inl rfl)) rfl
  · have h := br_neg c1 h
    refine lv_iconst (v := 1) hx hb dX8_isLate_14 (by decide) ?_
    refine lv_goto (tgt := 19) hx hb dX8_isLate_15 (by decide) ?_
    obtain rfl := Option.some.inj h
    exact hret _ _ _ _ _ hP hD hS dX8_isLate_19 (nz_of (Or.inr rfl)) rfl
/-! ===== X8_goOn ===== -/
def w_X8_goOn (cyI cyJ cyZ cyB cyO : ClassId) (aM aM_d aM_came aM_got aM_held aM_off aM_e aM_f aM_kept aM_found aM_tape aM_comesUp aM_comesDown aM_path aM_gets aM_gotNow aM_bitsOf aM_sizeOf aM_number aM_passing : Nat) (vM_isKept : Int32) (vM_taped : Int32) (vM_leaked : Int32) (vM_keptAll : Int32) (vM_offAll : Int32) (vM_up : Int64) (vM_down : Int64) (vM_sharesUp : Int64) (vM_sharesDown : Int64) (vM_onUp : Int64) (vM_onDown : Int64) (vM_great : Int32) (vM_triedOff : Int32) (vM_triedLeaked : Int32) (vM_triedKept : Int32) (vM_fitting : Int32) (vM_firstSet : Int32) (vM_inAll : Int32) (vM_inAny : Int32) (vM_at : Int32) (vM_sort : Int32) (vM_from : Int32) (vM_value : Int64) (vM_fault : Int32) (cM_d : Nat → Int32) (cM_came : Nat → Int32) (cM_got : Nat → Int32) (cM_held : Nat → Int32) (cM_off : Nat → Int32) : va_W := [(aM, .inr (7, [.ref aM_d, .ref aM_e, .ref aM_f, .ref aM_kept, .int vM_isKept, .ref aM_found, .ref aM_tape, .int vM_taped, .ref aM_came, .ref aM_got, .ref aM_held, .ref aM_off, .int vM_leaked, .int vM_keptAll, .int vM_offAll, .ref aM_comesUp, .ref aM_comesDown, .long vM_up, .long vM_down, .long vM_sharesUp, .long vM_sharesDown, .long vM_onUp, .long vM_onDown, .int vM_great, .ref aM_path, .ref aM_gets, .int vM_triedOff, .int vM_triedLeaked, .int vM_triedKept, .ref aM_gotNow, .int vM_fitting, .int vM_firstSet, .int vM_inAll, .int vM_inAny, .int vM_at, .int vM_sort, .int vM_from, .long vM_value, .int vM_fault, .ref aM_bitsOf, .ref aM_sizeOf, .ref aM_number, .ref aM_passing])), (aM_d, .inl (cyI, 64, .inl cM_d)), (aM_came, .inl (cyI, 10, .inl cM_came)), (aM_got, .inl (cyI, 10, .inl cM_got)), (aM_held, .inl (cyI, 10, .inl cM_held)), (aM_off, .inl (cyI, 10, .inl cM_off))]
set_option maxHeartbeats 4000000 in
set_option maxRecDepth 100000 in
theorem t_X8_goOn (l : Launch) (D : va_G) (cyI cyJ cyZ cyB cyO : ClassId) (aM aM_d aM_came aM_got aM_held aM_off aM_e aM_f aM_kept aM_found aM_tape aM_comesUp aM_comesDown aM_path aM_gets aM_gotNow aM_bitsOf aM_sizeOf aM_number aM_passing : Nat) (vM_isKept : Int32) (vM_taped : Int32) (vM_leaked : Int32) (vM_keptAll : Int32) (vM_offAll : Int32) (vM_up : Int64) (vM_down : Int64) (vM_sharesUp : Int64) (vM_sharesDown : Int64) (vM_onUp : Int64) (vM_onDown : Int64) (vM_great : Int32) (vM_triedOff : Int32) (vM_triedLeaked : Int32) (vM_triedKept : Int32) (vM_fitting : Int32) (vM_firstSet : Int32) (vM_inAll : Int32) (vM_inAny : Int32) (vM_at : Int32) (vM_sort : Int32) (vM_from : Int32) (vM_value : Int64) (vM_fault : Int32) (cM_d : Nat → Int32) (cM_came : Nat → Int32) (cM_got : Nat → Int32) (cM_held : Nat → Int32) (cM_off : Nat → Int32) (x1 : Int32) (out : Int32 × Int32 × Int32 × Int32 × (Nat → Int32) × (Nat → Int32) × (Nat → Int32) × (Nat → Int32) × (Nat → Int32)) (h : f_X8_goOn x1 vM_leaked vM_keptAll vM_offAll cM_d cM_came cM_got cM_held cM_off = some out) : Mi l yX8_goOn wsX8_goOn ({ frames := 4, cells := 0, slots := 0, locals := 95 } : Room) D (tyA cyI cyJ cyZ cyB cyO) [.ref aM, .int x1] (w_X8_goOn cyI cyJ cyZ cyB cyO aM aM_d aM_came aM_got aM_held aM_off aM_e aM_f aM_kept aM_found aM_tape aM_comesUp aM_comesDown aM_path aM_gets aM_gotNow aM_bitsOf aM_sizeOf aM_number aM_passing vM_isKept vM_taped vM_leaked vM_keptAll vM_offAll vM_up vM_down vM_sharesUp vM_sharesDown vM_onUp vM_onDown vM_great vM_triedOff vM_triedLeaked vM_triedKept vM_fitting vM_firstSet vM_inAll vM_inAny vM_at vM_sort vM_from vM_value vM_fault cM_d cM_came cM_got cM_held cM_off) (w_X8_goOn cyI cyJ cyZ cyB cyO aM aM_d aM_came aM_got aM_held aM_off aM_e aM_f aM_kept aM_found aM_tape aM_comesUp aM_comesDown aM_path aM_gets aM_gotNow aM_bitsOf aM_sizeOf aM_number aM_passing vM_isKept vM_taped out.2.1 out.2.2.1 out.2.2.2.1 vM_up vM_down vM_sharesUp vM_sharesDown vM_onUp vM_onDown vM_great vM_triedOff vM_triedLeaked vM_triedKept vM_fitting vM_firstSet vM_inAll vM_inAny vM_at vM_sort vM_from vM_value vM_fault out.2.2.2.2.1 out.2.2.2.2.2.1 out.2.2.2.2.2.2.1 out.2.2.2.2.2.2.2.1 out.2.2.2.2.2.2.2.2) out.1 := by
  refine Mi.mk (cc := cX8_goOn) (maxL := 4) (rt := .int) (own := RX8) (by decide) rfl rfl (Nat.le_of_ble_eq_true rfl) ?_
  intro p e s m args below meth c A Q F hK hP hD hA hret ls hl
  obtain ⟨hx, hb, hml, hown, hts⟩ := id F
  have hS : va_S A s.heap s.heap [] := va_S.rf
  have hl : lv_has ls 4 [(0, .ref aM), (1, .int x1)] := hl
  have in_X8 : ∀ w ∈ wsX80, w ∈ wsX8_goOn := by decide +kernel
  have q2 := hts (Cond.methodLink RX8 201 yX8_anHour) (List.mem_of_getElem? (i := 2) rfl)
  have q1 := hts (Cond.fieldLink RX8 82 "ThirdFountainModel" "keptAll" "I") (List.mem_of_getElem? (i := 1) rfl)
  unfold f_X8_goOn at h
  refine lv_iconst (v := 0) hx hb dX8_goOn_0 (by decide) ?_
  refine lv_istore_n (lv' := [(2, .int (0 : Int32)), (0, .ref aM), (1, .int x1)]) hx hb dX8_goOn_1 rfl hl (by decide) rfl (fun ls hl => ?_)
  refine lv_iconst (v := 0) hx hb dX8_goOn_2 (by decide) ?_
  refine lv_istore_n (lv' := [(3, .int (0 : Int32)), (2, .int (0 : Int32)), (0, .ref aM), (1, .int x1)]) hx hb dX8_goOn_3 rfl hl (by decide) rfl (fun ls hl => ?_)
  have lp4 : ∀ (k4 : Nat) (y2 : Int32) (y3 : Int32) (vM_leaked : Int32) (vM_keptAll : Int32) (vM_offAll : Int32) (cM_d : Nat → Int32) (cM_came : Nat → Int32) (cM_got : Nat → Int32) (cM_held : Nat → Int32) (cM_off : Nat → Int32) (H : Heap) (locs : List Loc) (ls : Array Slot), va_P D vwCl (w_X8_goOn cyI cyJ cyZ cyB cyO aM aM_d aM_came aM_got aM_held aM_off aM_e aM_f aM_kept aM_found aM_tape aM_comesUp aM_comesDown aM_path aM_gets aM_gotNow aM_bitsOf aM_sizeOf aM_number aM_passing vM_isKept vM_taped vM_leaked vM_keptAll vM_offAll vM_up vM_down vM_sharesUp vM_sharesDown vM_onUp vM_onDown vM_great vM_triedOff vM_triedLeaked vM_triedKept vM_fitting vM_firstSet vM_inAll vM_inAny vM_at vM_sort vM_from vM_value vM_fault cM_d cM_came cM_got cM_held cM_off) H → va_D A (w_X8_goOn cyI cyJ cyZ cyB cyO aM aM_d aM_came aM_got aM_held aM_off aM_e aM_f aM_kept aM_found aM_tape aM_comesUp aM_comesDown aM_path aM_gets aM_gotNow aM_bitsOf aM_sizeOf aM_number aM_passing vM_isKept vM_taped vM_leaked vM_keptAll vM_offAll vM_up vM_down vM_sharesUp vM_sharesDown vM_onUp vM_onDown vM_great vM_triedOff vM_triedLeaked vM_triedKept vM_fitting vM_firstSet vM_inAll vM_inAny vM_at vM_sort vM_from vM_value vM_fault cM_d cM_came cM_got cM_held cM_off) → va_S A s.heap H locs → lv_has ls 4 [(2, .int y2), (3, .int y3), (0, .ref aM), (1, .int x1)] → (f_X8_goOn_L4 x1 k4) (y2, y3, vM_leaked, vM_keptAll, vM_offAll, cM_d, cM_came, cM_got, cM_held, cM_off) = some out → W p l e ({ frames := 4, cells := 0, slots := 0, locals := 95 } : Room) s m args below meth c H locs 0 0 Q (F0 m 4 ls []) := by
    intro k4
    induction k4 with
    | zero => intro y2 y3 vM_leaked vM_keptAll vM_offAll cM_d cM_came cM_got cM_held cM_off H locs ls hP hD hS hl h; cases h
    | succ k4 ih4 =>
      intro y2 y3 vM_leaked vM_keptAll vM_offAll cM_d cM_came cM_got cM_held cM_off H locs ls hP hD hS hl h
      have h : f_X8_goOn_L4_b x1 (f_X8_goOn_L4 x1 k4) y2 y3 vM_leaked vM_keptAll vM_offAll cM_d cM_came cM_got cM_held cM_off = some out := h
      unfold f_X8_goOn_L4_b at h
      refine lv_iload_n hx hb dX8_goOn_4 rfl (lv_at hl 1 rfl) ?_
      refine lv_iload_n hx hb dX8_goOn_5 rfl (lv_at hl 3 rfl) ?_
      refine lv_icmp_ge (tgt := 26) hx hb dX8_goOn_6 (by decide) (fun c1 => ?_) (fun c1 => ?_)
      · have h := br_pos c1 h
        refine lv_iload_n hx hb dX8_goOn_26 rfl (lv_at hl 0 rfl) ?_
        obtain rfl := Option.some.inj h
        exact hret _ _ _ _ _ hP hD hS dX8_goOn_27 rfl rfl
      · have h := br_neg c1 h
        refine lv_aload_n hx hb dX8_goOn_9 rfl (lv_at hl 2 rfl) ?_
        obtain ⟨u2, hu2, h⟩ := bd_some h
        refine cl_Vv (rest := []) F hK hP hD hS hA hl (t_X8_anHour l D cyI cyJ cyZ cyB cyO aM aM_d aM_came aM_got aM_held aM_off aM_e aM_f aM_kept aM_found aM_tape aM_comesUp aM_comesDown aM_path aM_gets aM_gotNow aM_bitsOf aM_sizeOf aM_number aM_passing vM_isKept vM_taped vM_leaked vM_keptAll vM_offAll vM_up vM_down vM_sharesUp vM_sharesDown vM_onUp vM_onDown vM_great vM_triedOff vM_triedLeaked vM_triedKept vM_fitting vM_firstSet vM_inAll vM_inAny vM_at vM_sort vM_from vM_value vM_fault cM_d cM_came cM_got cM_held cM_off u2 hu2) (cwV 0 hts gX8_goOn_X8_anHour rfl rfl rfl (by decide +kernel) ⟨Nat.le_of_ble_eq_true rfl, Nat.le_of_ble_eq_true rfl⟩) 0 [0, 1, 2, 3, 4, 5] [1, 2, 3, 4, 5, 6] [] (w_X8_goOn cyI cyJ cyZ cyB cyO aM aM_d aM_came aM_got aM_held aM_off aM_e aM_f aM_kept aM_found aM_tape aM_comesUp aM_comesDown aM_path aM_gets aM_gotNow aM_bitsOf aM_sizeOf aM_number aM_passing vM_isKept vM_taped u2.1 u2.2.1 u2.2.2.1 vM_up vM_down vM_sharesUp vM_sharesDown vM_onUp vM_onDown vM_great vM_triedOff vM_triedLeaked vM_triedKept vM_fitting vM_firstSet vM_inAll vM_inAny vM_at vM_sort vM_from vM_value vM_fault u2.2.2.2.1 u2.2.2.2.2.1 u2.2.2.2.2.2.1 u2.2.2.2.2.2.2.1 u2.2.2.2.2.2.2.2) rfl rfl rfl rfl rfl (by decide +kernel) rfl rfl (Nat.le_of_ble_eq_true rfl) ⟨Nat.zero_le _, Nat.zero_le _⟩ dX8_goOn_10 (fun H locs hP hD hS => ?_)
        refine lv_iload_n hx hb dX8_goOn_13 rfl (lv_at hl 0 rfl) ?_
        refine lv_aload_n hx hb dX8_goOn_14 rfl (lv_at hl 2 rfl) ?_
        refine va_get (D := D) (ci := 7) (v := .int u2.2.1) (C := RX8) (T := TX8) (N := 43) hx hb hts in_X8 hown hK hP 0 rfl rfl 13 (by decide) q1 (fun _ h9 => h9) rfl dX8_goOn_15 ?_
        refine lv_iadd hx hb dX8_goOn_18 ?_
        refine lv_topi (fun z3 ez3 => ?_)
        have h := nm_at ez3 h
        refine lv_istore_n (lv' := [(2, .int z3), (3, .int y3), (0, .ref aM), (1, .int x1)]) hx hb dX8_goOn_19 rfl hl (by decide) rfl (fun ls hl => ?_)
        refine lv_iinc (v := y3 + 1) (lv' := [(3, .int (y3 + 1)), (2, .int z3), (0, .ref aM), (1, .int x1)]) hx hb dX8_goOn_20 hl (k := 1) rfl rfl (by decide) rfl (fun ls hl => ?_)
        refine lv_goto (tgt := 4) hx hb dX8_goOn_23 (by decide) ?_
        exact ih4 z3 (y3 + 1) u2.1 u2.2.1 u2.2.2.1 u2.2.2.2.1 u2.2.2.2.2.1 u2.2.2.2.2.2.1 u2.2.2.2.2.2.2.1 u2.2.2.2.2.2.2.2 _ _ _ hP hD hS (lv_sub hl [1, 0, 2, 3] rfl) h
  exact lp4 FU (0 : Int32) (0 : Int32) vM_leaked vM_keptAll vM_offAll cM_d cM_came cM_got cM_held cM_off _ _ _ hP hD hS (lv_sub hl [1, 0, 2, 3] rfl) h
/-! ===== X8_hours ===== -/
def w_X8_hours (cyI cyJ cyZ cyB cyO : ClassId) (aM aM_d aM_came aM_got aM_held aM_off aM_found aM_e aM_f aM_kept aM_tape aM_comesUp aM_comesDown aM_path aM_gets aM_gotNow aM_bitsOf aM_sizeOf aM_number aM_passing : Nat) (vM_isKept : Int32) (vM_taped : Int32) (vM_leaked : Int32) (vM_keptAll : Int32) (vM_offAll : Int32) (vM_up : Int64) (vM_down : Int64) (vM_sharesUp : Int64) (vM_sharesDown : Int64) (vM_onUp : Int64) (vM_onDown : Int64) (vM_great : Int32) (vM_triedOff : Int32) (vM_triedLeaked : Int32) (vM_triedKept : Int32) (vM_fitting : Int32) (vM_firstSet : Int32) (vM_inAll : Int32) (vM_inAny : Int32) (vM_at : Int32) (vM_sort : Int32) (vM_from : Int32) (vM_value : Int64) (vM_fault : Int32) (cM_d : Nat → Int32) (cM_came : Nat → Int32) (cM_got : Nat → Int32) (cM_held : Nat → Int32) (cM_off : Nat → Int32) (cM_found : Nat → Int32) : va_W := [(aM, .inr (7, [.ref aM_d, .ref aM_e, .ref aM_f, .ref aM_kept, .int vM_isKept, .ref aM_found, .ref aM_tape, .int vM_taped, .ref aM_came, .ref aM_got, .ref aM_held, .ref aM_off, .int vM_leaked, .int vM_keptAll, .int vM_offAll, .ref aM_comesUp, .ref aM_comesDown, .long vM_up, .long vM_down, .long vM_sharesUp, .long vM_sharesDown, .long vM_onUp, .long vM_onDown, .int vM_great, .ref aM_path, .ref aM_gets, .int vM_triedOff, .int vM_triedLeaked, .int vM_triedKept, .ref aM_gotNow, .int vM_fitting, .int vM_firstSet, .int vM_inAll, .int vM_inAny, .int vM_at, .int vM_sort, .int vM_from, .long vM_value, .int vM_fault, .ref aM_bitsOf, .ref aM_sizeOf, .ref aM_number, .ref aM_passing])), (aM_d, .inl (cyI, 64, .inl cM_d)), (aM_came, .inl (cyI, 10, .inl cM_came)), (aM_got, .inl (cyI, 10, .inl cM_got)), (aM_held, .inl (cyI, 10, .inl cM_held)), (aM_off, .inl (cyI, 10, .inl cM_off)), (aM_found, .inl (cyI, 7, .inl cM_found))]
set_option maxHeartbeats 4000000 in
set_option maxRecDepth 100000 in
theorem t_X8_hours (l : Launch) (D : va_G) (cyI cyJ cyZ cyB cyO : ClassId) (aM aM_d aM_came aM_got aM_held aM_off aM_found aM_e aM_f aM_kept aM_tape aM_comesUp aM_comesDown aM_path aM_gets aM_gotNow aM_bitsOf aM_sizeOf aM_number aM_passing : Nat) (vM_isKept : Int32) (vM_taped : Int32) (vM_leaked : Int32) (vM_keptAll : Int32) (vM_offAll : Int32) (vM_up : Int64) (vM_down : Int64) (vM_sharesUp : Int64) (vM_sharesDown : Int64) (vM_onUp : Int64) (vM_onDown : Int64) (vM_great : Int32) (vM_triedOff : Int32) (vM_triedLeaked : Int32) (vM_triedKept : Int32) (vM_fitting : Int32) (vM_firstSet : Int32) (vM_inAll : Int32) (vM_inAny : Int32) (vM_at : Int32) (vM_sort : Int32) (vM_from : Int32) (vM_value : Int64) (vM_fault : Int32) (cM_d : Nat → Int32) (cM_came : Nat → Int32) (cM_got : Nat → Int32) (cM_held : Nat → Int32) (cM_off : Nat → Int32) (cM_found : Nat → Int32) (x1 : Int32) (out : Int32 × Int32 × Int32 × Int32 × (Nat → Int32) × (Nat → Int32) × (Nat → Int32) × (Nat → Int32) × (Nat → Int32) × (Nat → Int32)) (h : f_X8_hours x1 vM_leaked vM_keptAll vM_offAll cM_d cM_came cM_got cM_held cM_off cM_found = some out) : Mi l yX8_hours wsX8_hours ({ frames := 5, cells := 0, slots := 0, locals := 118 } : Room) D (tyA cyI cyJ cyZ cyB cyO) [.ref aM, .int x1] (w_X8_hours cyI cyJ cyZ cyB cyO aM aM_d aM_came aM_got aM_held aM_off aM_found aM_e aM_f aM_kept aM_tape aM_comesUp aM_comesDown aM_path aM_gets aM_gotNow aM_bitsOf aM_sizeOf aM_number aM_passing vM_isKept vM_taped vM_leaked vM_keptAll vM_offAll vM_up vM_down vM_sharesUp vM_sharesDown vM_onUp vM_onDown vM_great vM_triedOff vM_triedLeaked vM_triedKept vM_fitting vM_firstSet vM_inAll vM_inAny vM_at vM_sort vM_from vM_value vM_fault cM_d cM_came cM_got cM_held cM_off cM_found) (w_X8_hours cyI cyJ cyZ cyB cyO aM aM_d aM_came aM_got aM_held aM_off aM_found aM_e aM_f aM_kept aM_tape aM_comesUp aM_comesDown aM_path aM_gets aM_gotNow aM_bitsOf aM_sizeOf aM_number aM_passing vM_isKept vM_taped out.2.1 out.2.2.1 out.2.2.2.1 vM_up vM_down vM_sharesUp vM_sharesDown vM_onUp vM_onDown vM_great vM_triedOff vM_triedLeaked vM_triedKept vM_fitting vM_firstSet vM_inAll vM_inAny vM_at vM_sort vM_from vM_value vM_fault out.2.2.2.2.1 out.2.2.2.2.2.1 out.2.2.2.2.2.2.1 out.2.2.2.2.2.2.2.1 out.2.2.2.2.2.2.2.2.1 out.2.2.2.2.2.2.2.2.2) out.1 := by
  refine Mi.mk (cc := cX8_hours) (maxL := 2) (rt := .int) (own := RX8) (by decide) rfl rfl (Nat.le_of_ble_eq_true rfl) ?_
  intro p e s m args below meth c A Q F hK hP hD hA hret ls hl
  obtain ⟨hx, hb, hml, hown, hts⟩ := id F
  have hS : va_S A s.heap s.heap [] := va_S.rf
  have hl : lv_has ls 2 [(0, .ref aM), (1, .int x1)] := hl
  have q1 := hts (Cond.constantLong RX8 204 (100)) (List.mem_of_getElem? (i := 1) rfl)
  have q2 := hts (Cond.methodLink RX8 70 yX8_in) (List.mem_of_getElem? (i := 2) rfl)
  have q12 := hts (Cond.methodLink RX8 206 yX8_isLate) (List.mem_of_getElem? (i := 12) rfl)
  have q17 := hts (Cond.methodLink RX8 209 yX8_goOn) (List.mem_of_getElem? (i := 17) rfl)
  have q6 := hts (Cond.methodLink RX8 115 yX8_finds) (List.mem_of_getElem? (i := 6) rfl)
  unfold f_X8_hours at h
  refine lv_iload_n hx hb dX8_hours_0 rfl (lv_at hl 1 rfl) ?_
  refine lv_i2l hx hb dX8_hours_1 rfl ?_
  refine lv_lconst (v := 1) hx hb dX8_hours_2 (by decide) ?_
  refine lv_ldc2 (v := 100) hx hb hown q1 dX8_hours_3 ?_
  obtain ⟨u1, hu1, h⟩ := bd_some h
  refine cl_Si (rest := []) F hK hP hD hS hA hl (t_X8_in l D cyI cyJ cyZ cyB cyO x1.toInt64 (1 : Int64) (100 : Int64) u1 hu1) (va_cwS 3 hts gX8_hours_X8_in rfl rfl rfl (by decide +kernel) ⟨Nat.le_of_ble_eq_true rfl, Nat.le_of_ble_eq_true rfl⟩) [] [0, 0, 0, 0, 0, 0, 0] [] (w_X8_hours cyI cyJ cyZ cyB cyO aM aM_d aM_came aM_got aM_held aM_off aM_found aM_e aM_f aM_kept aM_tape aM_comesUp aM_comesDown aM_path aM_gets aM_gotNow aM_bitsOf aM_sizeOf aM_number aM_passing vM_isKept vM_taped vM_leaked vM_keptAll vM_offAll vM_up vM_down vM_sharesUp vM_sharesDown vM_onUp vM_onDown vM_great vM_triedOff vM_triedLeaked vM_triedKept vM_fitting vM_firstSet vM_inAll vM_inAny vM_at vM_sort vM_from vM_value vM_fault cM_d cM_came cM_got cM_held cM_off cM_found) rfl rfl rfl (by decide +kernel) rfl rfl (Nat.le_of_ble_eq_true rfl) ⟨Nat.zero_le _, Nat.zero_le _⟩ dX8_hours_6 (fun H locs hP hD hS => ?_)
  refine lv_if_ne (tgt := 18) hx hb dX8_hours_9 (by decide) (fun c2 => ?_) (fun c2 => ?_)
  · have h := br_neg c2 h
    refine lv_aload_n hx hb dX8_hours_18 rfl (lv_at hl 0 rfl) ?_
    refine lv_iload_n hx hb dX8_hours_19 rfl (lv_at hl 1 rfl) ?_
    obtain ⟨u3, hu3, h⟩ := bd_some h
    refine cl_Vi (rest := []) F hK hP hD hS hA hl (t_X8_isLate l D cyI cyJ cyZ cyB cyO aM aM_d aM_e aM_f aM_kept aM_found aM_tape aM_came aM_got aM_held aM_off aM_comesUp aM_comesDown aM_path aM_gets aM_gotNow aM_bitsOf aM_sizeOf aM_number aM_passing vM_isKept vM_taped vM_leaked vM_keptAll vM_offAll vM_up vM_down vM_sharesUp vM_sharesDown vM_onUp vM_onDown vM_great vM_triedOff vM_triedLeaked vM_triedKept vM_fitting vM_firstSet vM_inAll vM_inAny vM_at vM_sort vM_from vM_value vM_fault cM_d x1 u3 hu3) (cwV 1 hts gX8_hours_X8_isLate rfl rfl rfl (by decide +kernel) ⟨Nat.le_of_ble_eq_true rfl, Nat.le_of_ble_eq_true rfl⟩) 0 [0, 1] [1, 2, 0, 0, 0, 0, 0] [] (w_X8_hours cyI cyJ cyZ cyB cyO aM aM_d aM_came aM_got aM_held aM_off aM_found aM_e aM_f aM_kept aM_tape aM_comesUp aM_comesDown aM_path aM_gets aM_gotNow aM_bitsOf aM_sizeOf aM_number aM_passing vM_isKept vM_taped vM_leaked vM_keptAll vM_offAll vM_up vM_down vM_sharesUp vM_sharesDown vM_onUp vM_onDown vM_great vM_triedOff vM_triedLeaked vM_triedKept vM_fitting vM_firstSet vM_inAll vM_inAny vM_at vM_sort vM_from vM_value vM_fault cM_d cM_came cM_got cM_held cM_off cM_found) rfl rfl rfl rfl rfl (by decide +kernel) rfl rfl (Nat.le_of_ble_eq_true rfl) ⟨Nat.zero_le _, Nat.zero_le _⟩ dX8_hours_20 (fun H locs hP hD hS => ?_)
    refine lv_if_eq (tgt := 34) hx hb dX8_hours_23 (by decide) (fun c4 => ?_) (fun c4 => ?_)
    · have h := br_pos c4 h
      refine lv_aload_n hx hb dX8_hours_34 rfl (lv_at hl 0 rfl) ?_
      refine lv_iload_n hx hb dX8_hours_35 rfl (lv_at hl 1 rfl) ?_
      obtain ⟨u5, hu5, h⟩ := bd_some h
      refine cl_Vi (rest := []) F hK hP hD hS hA hl (t_X8_goOn l D cyI cyJ cyZ cyB cyO aM aM_d aM_came aM_got aM_held aM_off aM_e aM_f aM_kept aM_found aM_tape aM_comesUp aM_comesDown aM_path aM_gets aM_gotNow aM_bitsOf aM_sizeOf aM_number aM_passing vM_isKept vM_taped vM_leaked vM_keptAll vM_offAll vM_up vM_down vM_sharesUp vM_sharesDown vM_onUp vM_onDown vM_great vM_triedOff vM_triedLeaked vM_triedKept vM_fitting vM_firstSet vM_inAll vM_inAny vM_at vM_sort vM_from vM_value vM_fault cM_d cM_came cM_got cM_held cM_off x1 u5 hu5) (cwV 1 hts gX8_hours_X8_goOn rfl rfl rfl (by decide +kernel) ⟨Nat.le_of_ble_eq_true rfl, Nat.le_of_ble_eq_true rfl⟩) 0 [0, 1, 2, 3, 4, 5] [1, 2, 3, 4, 5, 6, 0] [] (w_X8_hours cyI cyJ cyZ cyB cyO aM aM_d aM_came aM_got aM_held aM_off aM_found aM_e aM_f aM_kept aM_tape aM_comesUp aM_comesDown aM_path aM_gets aM_gotNow aM_bitsOf aM_sizeOf aM_number aM_passing vM_isKept vM_taped u5.2.1 u5.2.2.1 u5.2.2.2.1 vM_up vM_down vM_sharesUp vM_sharesDown vM_onUp vM_onDown vM_great vM_triedOff vM_triedLeaked vM_triedKept vM_fitting vM_firstSet vM_inAll vM_inAny vM_at vM_sort vM_from vM_value vM_fault u5.2.2.2.2.1 u5.2.2.2.2.2.1 u5.2.2.2.2.2.2.1 u5.2.2.2.2.2.2.2.1 u5.2.2.2.2.2.2.2.2 cM_found) rfl rfl rfl rfl rfl (by decide +kernel) rfl rfl (Nat.le_of_ble_eq_true rfl) ⟨Nat.zero_le _, Nat.zero_le _⟩ dX8_hours_36 (fun H locs hP hD hS => ?_)
      obtain rfl := Option.some.inj h
      exact hret _ _ _ _ _ hP hD hS dX8_hours_39 rfl rfl
    · have h := br_neg c4 h
      refine lv_aload_n hx hb dX8_hours_26 rfl (lv_at hl 0 rfl) ?_
      refine lv_iconst (v := 4) hx hb dX8_hours_27 (by decide) ?_
      obtain ⟨u6, hu6, h⟩ := bd_some h
      refine cl_Vi (rest := []) F hK hP hD hS hA hl (t_X8_finds l D cyI cyJ cyZ cyB cyO aM aM_found aM_d aM_e aM_f aM_kept aM_tape aM_came aM_got aM_held aM_off aM_comesUp aM_comesDown aM_path aM_gets aM_gotNow aM_bitsOf aM_sizeOf aM_number aM_passing vM_isKept vM_taped vM_leaked vM_keptAll vM_offAll vM_up vM_down vM_sharesUp vM_sharesDown vM_onUp vM_onDown vM_great vM_triedOff vM_triedLeaked vM_triedKept vM_fitting vM_firstSet vM_inAll vM_inAny vM_at vM_sort vM_from vM_value vM_fault cM_found (4 : Int32) u6 hu6) (cwV 1 hts gX8_hours_X8_finds rfl rfl rfl (by decide +kernel) ⟨Nat.le_of_ble_eq_true rfl, Nat.le_of_ble_eq_true rfl⟩) 0 [0, 6] [1, 0, 0, 0, 0, 0, 2] [] (w_X8_hours cyI cyJ cyZ cyB cyO aM aM_d aM_came aM_got aM_held aM_off aM_found aM_e aM_f aM_kept aM_tape aM_comesUp aM_comesDown aM_path aM_gets aM_gotNow aM_bitsOf aM_sizeOf aM_number aM_passing vM_isKept vM_taped vM_leaked vM_keptAll vM_offAll vM_up vM_down vM_sharesUp vM_sharesDown vM_onUp vM_onDown vM_great vM_triedOff vM_triedLeaked vM_triedKept vM_fitting vM_firstSet vM_inAll vM_inAny vM_at vM_sort vM_from vM_value vM_fault cM_d cM_came cM_got cM_held cM_off u6.2) rfl rfl rfl rfl rfl (by decide +kernel) rfl rfl (Nat.le_of_ble_eq_true rfl) ⟨Nat.zero_le _, Nat.zero_le _⟩ dX8_hours_28 (fun H locs hP hD hS => ?_)
      refine lv_goto (tgt := 39) hx hb dX8_hours_31 (by decide) ?_
      obtain rfl := Option.some.inj h
      exact hret _ _ _ _ _ hP hD hS dX8_hours_39 rfl rfl
  · have h := br_pos c2 h
    refine lv_aload_n hx hb dX8_hours_12 rfl (lv_at hl 0 rfl) ?_
    refine lv_iconst (v := 0) hx hb dX8_hours_13 (by decide) ?_
    obtain ⟨u7, hu7, h⟩ := bd_some h
    refine cl_Vi (rest := []) F hK hP hD hS hA hl (t_X8_finds l D cyI cyJ cyZ cyB cyO aM aM_found aM_d aM_e aM_f aM_kept aM_tape aM_came aM_got aM_held aM_off aM_comesUp aM_comesDown aM_path aM_gets aM_gotNow aM_bitsOf aM_sizeOf aM_number aM_passing vM_isKept vM_taped vM_leaked vM_keptAll vM_offAll vM_up vM_down vM_sharesUp vM_sharesDown vM_onUp vM_onDown vM_great vM_triedOff vM_triedLeaked vM_triedKept vM_fitting vM_firstSet vM_inAll vM_inAny vM_at vM_sort vM_from vM_value vM_fault cM_found (0 : Int32) u7 hu7) (cwV 1 hts gX8_hours_X8_finds rfl rfl rfl (by decide +kernel) ⟨Nat.le_of_ble_eq_true rfl, Nat.le_of_ble_eq_true rfl⟩) 0 [0, 6] [1, 0, 0, 0, 0, 0, 2] [] (w_X8_hours cyI cyJ cyZ cyB cyO aM aM_d aM_came aM_got aM_held aM_off aM_found aM_e aM_f aM_kept aM_tape aM_comesUp aM_comesDown aM_path aM_gets aM_gotNow aM_bitsOf aM_sizeOf aM_number aM_passing vM_isKept vM_taped vM_leaked vM_keptAll vM_offAll vM_up vM_down vM_sharesUp vM_sharesDown vM_onUp vM_onDown vM_great vM_triedOff vM_triedLeaked vM_triedKept vM_fitting vM_firstSet vM_inAll vM_inAny vM_at vM_sort vM_from vM_value vM_fault cM_d cM_came cM_got cM_held cM_off u7.2) rfl rfl rfl rfl rfl (by decide +kernel) rfl rfl (Nat.le_of_ble_eq_true rfl) ⟨Nat.zero_le _, Nat.zero_le _⟩ dX8_hours_14 (fun H locs hP hD hS => ?_)
    obtain rfl := Option.some.inj h
    exact hret _ _ _ _ _ hP hD hS dX8_hours_17 rfl rfl
/-! ===== X8_sumOf ===== -/
def w_X8_sumOf (cyI cyJ cyZ cyB cyO : ClassId) (aM aM_d aM_e aM_f aM_kept aM_found aM_tape aM_came aM_got aM_held aM_off aM_comesUp aM_comesDown aM_path aM_gets aM_gotNow aM_bitsOf aM_sizeOf aM_number aM_passing : Nat) (vM_isKept : Int32) (vM_taped : Int32) (vM_leaked : Int32) (vM_keptAll : Int32) (vM_offAll : Int32) (vM_up : Int64) (vM_down : Int64) (vM_sharesUp : Int64) (vM_sharesDown : Int64) (vM_onUp : Int64) (vM_onDown : Int64) (vM_great : Int32) (vM_triedOff : Int32) (vM_triedLeaked : Int32) (vM_triedKept : Int32) (vM_fitting : Int32) (vM_firstSet : Int32) (vM_inAll : Int32) (vM_inAny : Int32) (vM_at : Int32) (vM_sort : Int32) (vM_from : Int32) (vM_value : Int64) (vM_fault : Int32) (cM_d : Nat → Int32) : va_W := [(aM, .inr (7, [.ref aM_d, .ref aM_e, .ref aM_f, .ref aM_kept, .int vM_isKept, .ref aM_found, .ref aM_tape, .int vM_taped, .ref aM_came, .ref aM_got, .ref aM_held, .ref aM_off, .int vM_leaked, .int vM_keptAll, .int vM_offAll, .ref aM_comesUp, .ref aM_comesDown, .long vM_up, .long vM_down, .long vM_sharesUp, .long vM_sharesDown, .long vM_onUp, .long vM_onDown, .int vM_great, .ref aM_path, .ref aM_gets, .int vM_triedOff, .int vM_triedLeaked, .int vM_triedKept, .ref aM_gotNow, .int vM_fitting, .int vM_firstSet, .int vM_inAll, .int vM_inAny, .int vM_at, .int vM_sort, .int vM_from, .long vM_value, .int vM_fault, .ref aM_bitsOf, .ref aM_sizeOf, .ref aM_number, .ref aM_passing])), (aM_d, .inl (cyI, 64, .inl cM_d))]
set_option maxHeartbeats 4000000 in
set_option maxRecDepth 100000 in
theorem t_X8_sumOf (l : Launch) (D : va_G) (cyI cyJ cyZ cyB cyO : ClassId) (aM aM_d aM_e aM_f aM_kept aM_found aM_tape aM_came aM_got aM_held aM_off aM_comesUp aM_comesDown aM_path aM_gets aM_gotNow aM_bitsOf aM_sizeOf aM_number aM_passing : Nat) (vM_isKept : Int32) (vM_taped : Int32) (vM_leaked : Int32) (vM_keptAll : Int32) (vM_offAll : Int32) (vM_up : Int64) (vM_down : Int64) (vM_sharesUp : Int64) (vM_sharesDown : Int64) (vM_onUp : Int64) (vM_onDown : Int64) (vM_great : Int32) (vM_triedOff : Int32) (vM_triedLeaked : Int32) (vM_triedKept : Int32) (vM_fitting : Int32) (vM_firstSet : Int32) (vM_inAll : Int32) (vM_inAny : Int32) (vM_at : Int32) (vM_sort : Int32) (vM_from : Int32) (vM_value : Int64) (vM_fault : Int32) (cM_d : Nat → Int32) (x1 : Int32) (out : Int32) (h : f_X8_sumOf x1 cM_d = some out) : Mi l yX8_sumOf wsX8_sumOf ({ frames := 1, cells := 0, slots := 0, locals := 22 } : Room) D (tyA cyI cyJ cyZ cyB cyO) [.ref aM, .int x1] (w_X8_sumOf cyI cyJ cyZ cyB cyO aM aM_d aM_e aM_f aM_kept aM_found aM_tape aM_came aM_got aM_held aM_off aM_comesUp aM_comesDown aM_path aM_gets aM_gotNow aM_bitsOf aM_sizeOf aM_number aM_passing vM_isKept vM_taped vM_leaked vM_keptAll vM_offAll vM_up vM_down vM_sharesUp vM_sharesDown vM_onUp vM_onDown vM_great vM_triedOff vM_triedLeaked vM_triedKept vM_fitting vM_firstSet vM_inAll vM_inAny vM_at vM_sort vM_from vM_value vM_fault cM_d) (w_X8_sumOf cyI cyJ cyZ cyB cyO aM aM_d aM_e aM_f aM_kept aM_found aM_tape aM_came aM_got aM_held aM_off aM_comesUp aM_comesDown aM_path aM_gets aM_gotNow aM_bitsOf aM_sizeOf aM_number aM_passing vM_isKept vM_taped vM_leaked vM_keptAll vM_offAll vM_up vM_down vM_sharesUp vM_sharesDown vM_onUp vM_onDown vM_great vM_triedOff vM_triedLeaked vM_triedKept vM_fitting vM_firstSet vM_inAll vM_inAny vM_at vM_sort vM_from vM_value vM_fault cM_d) out := by
  refine Mi.mk (cc := cX8_sumOf) (maxL := 4) (rt := .int) (own := RX8) (by decide) rfl rfl (Nat.le_of_ble_eq_true rfl) ?_
  intro p e s m args below meth c A Q F hK hP hD hA hret ls hl
  obtain ⟨hx, hb, hml, hown, hts⟩ := id F
  have hS : va_S A s.heap s.heap [] := va_S.rf
  have hl : lv_has ls 4 [(0, .ref aM), (1, .int x1)] := hl
  have in_X8 : ∀ w ∈ wsX80, w ∈ wsX8_sumOf := by decide +kernel
  have q1 := hts (Cond.fieldLink RX8 7 "ThirdFountainModel" "d" "[I") (List.mem_of_getElem? (i := 1) rfl)
  have q2 := hts (Cond.methodLink RX8 74 yX8_its) (List.mem_of_getElem? (i := 2) rfl)
  unfold f_X8_sumOf at h
  refine lv_iconst (v := 0) hx hb dX8_sumOf_0 (by decide) ?_
  refine lv_istore_n (lv' := [(2, .int (0 : Int32)), (0, .ref aM), (1, .int x1)]) hx hb dX8_sumOf_1 rfl hl (by decide) rfl (fun ls hl => ?_)
  refine lv_iconst (v := 0) hx hb dX8_sumOf_2 (by decide) ?_
  refine lv_istore_n (lv' := [(3, .int (0 : Int32)), (2, .int (0 : Int32)), (0, .ref aM), (1, .int x1)]) hx hb dX8_sumOf_3 rfl hl (by decide) rfl (fun ls hl => ?_)
  have lp4 : ∀ (k4 : Nat) (y2 : Int32) (y3 : Int32) (H : Heap) (locs : List Loc) (ls : Array Slot), va_P D vwCl (w_X8_sumOf cyI cyJ cyZ cyB cyO aM aM_d aM_e aM_f aM_kept aM_found aM_tape aM_came aM_got aM_held aM_off aM_comesUp aM_comesDown aM_path aM_gets aM_gotNow aM_bitsOf aM_sizeOf aM_number aM_passing vM_isKept vM_taped vM_leaked vM_keptAll vM_offAll vM_up vM_down vM_sharesUp vM_sharesDown vM_onUp vM_onDown vM_great vM_triedOff vM_triedLeaked vM_triedKept vM_fitting vM_firstSet vM_inAll vM_inAny vM_at vM_sort vM_from vM_value vM_fault cM_d) H → va_D A (w_X8_sumOf cyI cyJ cyZ cyB cyO aM aM_d aM_e aM_f aM_kept aM_found aM_tape aM_came aM_got aM_held aM_off aM_comesUp aM_comesDown aM_path aM_gets aM_gotNow aM_bitsOf aM_sizeOf aM_number aM_passing vM_isKept vM_taped vM_leaked vM_keptAll vM_offAll vM_up vM_down vM_sharesUp vM_sharesDown vM_onUp vM_onDown vM_great vM_triedOff vM_triedLeaked vM_triedKept vM_fitting vM_firstSet vM_inAll vM_inAny vM_at vM_sort vM_from vM_value vM_fault cM_d) → va_S A s.heap H locs → lv_has ls 4 [(2, .int y2), (3, .int y3), (0, .ref aM), (1, .int x1)] → (f_X8_sumOf_L4 x1 cM_d k4) (y2, y3) = some out → W p l e ({ frames := 1, cells := 0, slots := 0, locals := 22 } : Room) s m args below meth c H locs 0 0 Q (F0 m 4 ls []) := by
    intro k4
    induction k4 with
    | zero => intro y2 y3 H locs ls hP hD hS hl h; cases h
    | succ k4 ih4 =>
      intro y2 y3 H locs ls hP hD hS hl h
      have h : f_X8_sumOf_L4_b x1 cM_d (f_X8_sumOf_L4 x1 cM_d k4) y2 y3 = some out := h
      unfold f_X8_sumOf_L4_b at h
      refine lv_iload_n hx hb dX8_sumOf_4 rfl (lv_at hl 1 rfl) ?_
      refine lv_aload_n hx hb dX8_sumOf_5 rfl (lv_at hl 2 rfl) ?_
      refine va_get (D := D) (ci := 7) (v := .ref aM_d) (C := RX8) (T := TX8) (N := 43) hx hb hts in_X8 hown hK hP 0 rfl rfl 0 (by decide) q1 (fun _ h9 => h9) rfl dX8_sumOf_6 ?_
      refine lv_iconst (v := 0) hx hb dX8_sumOf_9 (by decide) ?_
      refine va_iald hx hb hK hP 1 0 rfl rfl (by unfold vp_in; decide) dX8_sumOf_10 ?_
      refine lv_icmp_ge (tgt := 29) hx hb dX8_sumOf_11 (by decide) (fun c1 => ?_) (fun c1 => ?_)
      · have h := br_pos c1 h
        refine lv_iload_n hx hb dX8_sumOf_29 rfl (lv_at hl 0 rfl) ?_
        obtain rfl := Option.some.inj h
        exact hret _ _ _ _ _ hP hD hS dX8_sumOf_30 rfl rfl
      · have h := br_neg c1 h
        refine lv_iload_n hx hb dX8_sumOf_14 rfl (lv_at hl 0 rfl) ?_
        refine lv_aload_n hx hb dX8_sumOf_15 rfl (lv_at hl 2 rfl) ?_
        refine lv_iload_n hx hb dX8_sumOf_16 rfl (lv_at hl 1 rfl) ?_
        refine lv_iload_n hx hb dX8_sumOf_17 rfl (lv_at hl 3 rfl) ?_
        obtain ⟨u2, hu2, h⟩ := bd_some h
        refine cl_Vi (rest := [.int y2]) F hK hP hD hS hA hl (t_X8_its l D cyI cyJ cyZ cyB cyO aM aM_d aM_e aM_f aM_kept aM_found aM_tape aM_came aM_got aM_held aM_off aM_comesUp aM_comesDown aM_path aM_gets aM_gotNow aM_bitsOf aM_sizeOf aM_number aM_passing vM_isKept vM_taped vM_leaked vM_keptAll vM_offAll vM_up vM_down vM_sharesUp vM_sharesDown vM_onUp vM_onDown vM_great vM_triedOff vM_triedLeaked vM_triedKept vM_fitting vM_firstSet vM_inAll vM_inAny vM_at vM_sort vM_from vM_value vM_fault cM_d y3 x1 u2 hu2) (cwV 2 hts gX8_sumOf_X8_its rfl rfl rfl (by decide +kernel) ⟨Nat.le_of_ble_eq_true rfl, Nat.le_of_ble_eq_true rfl⟩) 0 [0, 1] [1, 2] [] (w_X8_sumOf cyI cyJ cyZ cyB cyO aM aM_d aM_e aM_f aM_kept aM_found aM_tape aM_came aM_got aM_held aM_off aM_comesUp aM_comesDown aM_path aM_gets aM_gotNow aM_bitsOf aM_sizeOf aM_number aM_passing vM_isKept vM_taped vM_leaked vM_keptAll vM_offAll vM_up vM_down vM_sharesUp vM_sharesDown vM_onUp vM_onDown vM_great vM_triedOff vM_triedLeaked vM_triedKept vM_fitting vM_firstSet vM_inAll vM_inAny vM_at vM_sort vM_from vM_value vM_fault cM_d) rfl rfl rfl rfl rfl (by decide +kernel) rfl rfl (Nat.le_of_ble_eq_true rfl) ⟨Nat.zero_le _, Nat.zero_le _⟩ dX8_sumOf_18 (fun H locs hP hD hS => ?_)
        refine lv_iadd hx hb dX8_sumOf_21 ?_
        refine lv_topi (fun z3 ez3 => ?_)
        have h := nm_at ez3 h
        refine lv_istore_n (lv' := [(2, .int z3), (3, .int y3), (0, .ref aM), (1, .int x1)]) hx hb dX8_sumOf_22 rfl hl (by decide) rfl (fun ls hl => ?_)
        refine lv_iinc (v := y3 + 1) (lv' := [(3, .int (y3 + 1)), (2, .int z3), (0, .ref aM), (1, .int x1)]) hx hb dX8_sumOf_23 hl (k := 1) rfl rfl (by decide) rfl (fun ls hl => ?_)
        refine lv_goto (tgt := 4) hx hb dX8_sumOf_26 (by decide) ?_
        exact ih4 z3 (y3 + 1) _ _ _ hP hD hS (lv_sub hl [1, 0, 2, 3] rfl) h
  exact lp4 FU (0 : Int32) (0 : Int32) _ _ _ hP hD hS (lv_sub hl [1, 0, 2, 3] rfl) h
/-! ===== X8_now ===== -/
def w_X8_now (cyI cyJ cyZ cyB cyO : ClassId) (aM aM_d aM_came aM_got aM_held aM_off aM_found aM_e aM_f aM_kept aM_tape aM_comesUp aM_comesDown aM_path aM_gets aM_gotNow aM_bitsOf aM_sizeOf aM_number aM_passing : Nat) (vM_isKept : Int32) (vM_taped : Int32) (vM_leaked : Int32) (vM_keptAll : Int32) (vM_offAll : Int32) (vM_up : Int64) (vM_down : Int64) (vM_sharesUp : Int64) (vM_sharesDown : Int64) (vM_onUp : Int64) (vM_onDown : Int64) (vM_great : Int32) (vM_triedOff : Int32) (vM_triedLeaked : Int32) (vM_triedKept : Int32) (vM_fitting : Int32) (vM_firstSet : Int32) (vM_inAll : Int32) (vM_inAny : Int32) (vM_at : Int32) (vM_sort : Int32) (vM_from : Int32) (vM_value : Int64) (vM_fault : Int32) (cM_d : Nat → Int32) (cM_came : Nat → Int32) (cM_got : Nat → Int32) (cM_held : Nat → Int32) (cM_off : Nat → Int32) (cM_found : Nat → Int32) : va_W := [(aM, .inr (7, [.ref aM_d, .ref aM_e, .ref aM_f, .ref aM_kept, .int vM_isKept, .ref aM_found, .ref aM_tape, .int vM_taped, .ref aM_came, .ref aM_got, .ref aM_held, .ref aM_off, .int vM_leaked, .int vM_keptAll, .int vM_offAll, .ref aM_comesUp, .ref aM_comesDown, .long vM_up, .long vM_down, .long vM_sharesUp, .long vM_sharesDown, .long vM_onUp, .long vM_onDown, .int vM_great, .ref aM_path, .ref aM_gets, .int vM_triedOff, .int vM_triedLeaked, .int vM_triedKept, .ref aM_gotNow, .int vM_fitting, .int vM_firstSet, .int vM_inAll, .int vM_inAny, .int vM_at, .int vM_sort, .int vM_from, .long vM_value, .int vM_fault, .ref aM_bitsOf, .ref aM_sizeOf, .ref aM_number, .ref aM_passing])), (aM_d, .inl (cyI, 64, .inl cM_d)), (aM_came, .inl (cyI, 10, .inl cM_came)), (aM_got, .inl (cyI, 10, .inl cM_got)), (aM_held, .inl (cyI, 10, .inl cM_held)), (aM_off, .inl (cyI, 10, .inl cM_off)), (aM_found, .inl (cyI, 7, .inl cM_found))]
set_option maxHeartbeats 4000000 in
set_option maxRecDepth 100000 in
theorem t_X8_now (l : Launch) (D : va_G) (cyI cyJ cyZ cyB cyO : ClassId) (aM aM_d aM_came aM_got aM_held aM_off aM_found aM_e aM_f aM_kept aM_tape aM_comesUp aM_comesDown aM_path aM_gets aM_gotNow aM_bitsOf aM_sizeOf aM_number aM_passing : Nat) (vM_isKept : Int32) (vM_taped : Int32) (vM_leaked : Int32) (vM_keptAll : Int32) (vM_offAll : Int32) (vM_up : Int64) (vM_down : Int64) (vM_sharesUp : Int64) (vM_sharesDown : Int64) (vM_onUp : Int64) (vM_onDown : Int64) (vM_great : Int32) (vM_triedOff : Int32) (vM_triedLeaked : Int32) (vM_triedKept : Int32) (vM_fitting : Int32) (vM_firstSet : Int32) (vM_inAll : Int32) (vM_inAny : Int32) (vM_at : Int32) (vM_sort : Int32) (vM_from : Int32) (vM_value : Int64) (vM_fault : Int32) (cM_d : Nat → Int32) (cM_came : Nat → Int32) (cM_got : Nat → Int32) (cM_held : Nat → Int32) (cM_off : Nat → Int32) (cM_found : Nat → Int32) (x1 : Int32) (out : Int32 × Int32 × Int32 × Int32 × (Nat → Int32) × (Nat → Int32) × (Nat → Int32) × (Nat → Int32) × (Nat → Int32)) (h : f_X8_now x1 vM_leaked vM_keptAll vM_offAll cM_d cM_came cM_got cM_held cM_off cM_found = some out) : Mi l yX8_now wsX8_now ({ frames := 3, cells := 0, slots := 0, locals := 74 } : Room) D (tyA cyI cyJ cyZ cyB cyO) [.ref aM, .int x1] (w_X8_now cyI cyJ cyZ cyB cyO aM aM_d aM_came aM_got aM_held aM_off aM_found aM_e aM_f aM_kept aM_tape aM_comesUp aM_comesDown aM_path aM_gets aM_gotNow aM_bitsOf aM_sizeOf aM_number aM_passing vM_isKept vM_taped vM_leaked vM_keptAll vM_offAll vM_up vM_down vM_sharesUp vM_sharesDown vM_onUp vM_onDown vM_great vM_triedOff vM_triedLeaked vM_triedKept vM_fitting vM_firstSet vM_inAll vM_inAny vM_at vM_sort vM_from vM_value vM_fault cM_d cM_came cM_got cM_held cM_off cM_found) (w_X8_now cyI cyJ cyZ cyB cyO aM aM_d aM_came aM_got aM_held aM_off aM_found aM_e aM_f aM_kept aM_tape aM_comesUp aM_comesDown aM_path aM_gets aM_gotNow aM_bitsOf aM_sizeOf aM_number aM_passing vM_isKept vM_taped out.2.1 out.2.2.1 out.2.2.2.1 vM_up vM_down vM_sharesUp vM_sharesDown vM_onUp vM_onDown vM_great vM_triedOff vM_triedLeaked vM_triedKept vM_fitting vM_firstSet vM_inAll vM_inAny vM_at vM_sort vM_from vM_value vM_fault cM_d out.2.2.2.2.1 out.2.2.2.2.2.1 out.2.2.2.2.2.2.1 out.2.2.2.2.2.2.2.1 out.2.2.2.2.2.2.2.2) out.1 := by
  refine Mi.mk (cc := cX8_now) (maxL := 2) (rt := .int) (own := RX8) (by decide) rfl rfl (Nat.le_of_ble_eq_true rfl) ?_
  intro p e s m args below meth c A Q F hK hP hD hA hret ls hl
  obtain ⟨hx, hb, hml, hown, hts⟩ := id F
  have hS : va_S A s.heap s.heap [] := va_S.rf
  have hl : lv_has ls 2 [(0, .ref aM), (1, .int x1)] := hl
  have in_X8 : ∀ w ∈ wsX80, w ∈ wsX8_now := by decide +kernel
  have q1 := hts (Cond.constantLong RX8 113 (6)) (List.mem_of_getElem? (i := 1) rfl)
  have q6 := hts (Cond.methodLink RX8 70 yX8_in) (List.mem_of_getElem? (i := 6) rfl)
  have q16 := hts (Cond.methodLink RX8 102 yX8_look) (List.mem_of_getElem? (i := 16) rfl)
  have q2 := hts (Cond.fieldLink RX8 7 "ThirdFountainModel" "d" "[I") (List.mem_of_getElem? (i := 2) rfl)
  have q41 := hts (Cond.methodLink RX8 212 yX8_sumOf) (List.mem_of_getElem? (i := 41) rfl)
  have q3 := hts (Cond.fieldLink RX8 85 "ThirdFountainModel" "offAll" "I") (List.mem_of_getElem? (i := 3) rfl)
  have q4 := hts (Cond.fieldLink RX8 78 "ThirdFountainModel" "leaked" "I") (List.mem_of_getElem? (i := 4) rfl)
  have q5 := hts (Cond.fieldLink RX8 82 "ThirdFountainModel" "keptAll" "I") (List.mem_of_getElem? (i := 5) rfl)
  have q10 := hts (Cond.methodLink RX8 115 yX8_finds) (List.mem_of_getElem? (i := 10) rfl)
  unfold f_X8_now at h
  refine lv_iload_n hx hb dX8_now_0 rfl (lv_at hl 1 rfl) ?_
  refine lv_i2l hx hb dX8_now_1 rfl ?_
  refine lv_lconst (v := 0) hx hb dX8_now_2 (by decide) ?_
  refine lv_ldc2 (v := 6) hx hb hown q1 dX8_now_3 ?_
  obtain ⟨u1, hu1, h⟩ := bd_some h
  refine cl_Si (rest := []) F hK hP hD hS hA hl (t_X8_in l D cyI cyJ cyZ cyB cyO x1.toInt64 (0 : Int64) (6 : Int64) u1 hu1) (va_cwS 3 hts gX8_now_X8_in rfl rfl rfl (by decide +kernel) ⟨Nat.le_of_ble_eq_true rfl, Nat.le_of_ble_eq_true rfl⟩) [] [0, 0, 0, 0, 0, 0, 0] [] (w_X8_now cyI cyJ cyZ cyB cyO aM aM_d aM_came aM_got aM_held aM_off aM_found aM_e aM_f aM_kept aM_tape aM_comesUp aM_comesDown aM_path aM_gets aM_gotNow aM_bitsOf aM_sizeOf aM_number aM_passing vM_isKept vM_taped vM_leaked vM_keptAll vM_offAll vM_up vM_down vM_sharesUp vM_sharesDown vM_onUp vM_onDown vM_great vM_triedOff vM_triedLeaked vM_triedKept vM_fitting vM_firstSet vM_inAll vM_inAny vM_at vM_sort vM_from vM_value vM_fault cM_d cM_came cM_got cM_held cM_off cM_found) rfl rfl rfl (by decide +kernel) rfl rfl (Nat.le_of_ble_eq_true rfl) ⟨Nat.zero_le _, Nat.zero_le _⟩ dX8_now_6 (fun H locs hP hD hS => ?_)
  refine lv_if_ne (tgt := 18) hx hb dX8_now_9 (by decide) (fun c2 => ?_) (fun c2 => ?_)
  · have h := br_neg c2 h
    refine lv_aload_n hx hb dX8_now_18 rfl (lv_at hl 0 rfl) ?_
    obtain ⟨u3, hu3, h⟩ := bd_some h
    refine cl_Vv (rest := []) F hK hP hD hS hA hl (t_X8_look l D cyI cyJ cyZ cyB cyO aM aM_d aM_came aM_got aM_held aM_off aM_e aM_f aM_kept aM_found aM_tape aM_comesUp aM_comesDown aM_path aM_gets aM_gotNow aM_bitsOf aM_sizeOf aM_number aM_passing vM_isKept vM_taped vM_leaked vM_keptAll vM_offAll vM_up vM_down vM_sharesUp vM_sharesDown vM_onUp vM_onDown vM_great vM_triedOff vM_triedLeaked vM_triedKept vM_fitting vM_firstSet vM_inAll vM_inAny vM_at vM_sort vM_from vM_value vM_fault cM_d cM_came cM_got cM_held cM_off u3 hu3) (cwV 0 hts gX8_now_X8_look rfl rfl rfl (by decide +kernel) ⟨Nat.le_of_ble_eq_true rfl, Nat.le_of_ble_eq_true rfl⟩) 0 [0, 1, 2, 3, 4, 5] [1, 2, 3, 4, 5, 6, 0] [] (w_X8_now cyI cyJ cyZ cyB cyO aM aM_d aM_came aM_got aM_held aM_off aM_found aM_e aM_f aM_kept aM_tape aM_comesUp aM_comesDown aM_path aM_gets aM_gotNow aM_bitsOf aM_sizeOf aM_number aM_passing vM_isKept vM_taped u3.1 u3.2.1 u3.2.2.1 vM_up vM_down vM_sharesUp vM_sharesDown vM_onUp vM_onDown vM_great vM_triedOff vM_triedLeaked vM_triedKept vM_fitting vM_firstSet vM_inAll vM_inAny vM_at vM_sort vM_from vM_value vM_fault cM_d u3.2.2.2.1 u3.2.2.2.2.1 u3.2.2.2.2.2.1 u3.2.2.2.2.2.2 cM_found) rfl rfl rfl rfl rfl (by decide +kernel) rfl rfl (Nat.le_of_ble_eq_true rfl) ⟨Nat.zero_le _, Nat.zero_le _⟩ dX8_now_19 (fun H locs hP hD hS => ?_)
    refine lv_iload_n hx hb dX8_now_22 rfl (lv_at hl 1 rfl) ?_
    by_cases c4 : x1 = 0
    · have h := br_pos c4 h
      refine lv_tableIn (off := 37) (tgt := 60) hx hb dX8_now_23 (by rw [c4]; decide) (by rw [c4]; decide) (by rw [c4]; rfl) (by decide) ?_
      refine lv_aload_n hx hb dX8_now_60 rfl (lv_at hl 0 rfl) ?_
      refine va_get (D := D) (ci := 7) (v := .ref aM_d) (C := RX8) (T := TX8) (N := 43) hx hb hts in_X8 hown hK hP 0 rfl rfl 0 (by decide) q2 (fun _ h9 => h9) rfl dX8_now_61 ?_
      refine lv_iconst (v := 1) hx hb dX8_now_64 (by decide) ?_
      refine va_iald hx hb hK hP 1 0 rfl rfl (by unfold vp_in; decide) dX8_now_65 ?_
      obtain rfl := Option.some.inj h
      exact hret _ _ _ _ _ hP hD hS dX8_now_66 rfl rfl
    have h := br_neg c4 h
    by_cases c5 : x1 = 1
    · have h := br_pos c5 h
      refine lv_tableIn (off := 44) (tgt := 67) hx hb dX8_now_23 (by rw [c5]; decide) (by rw [c5]; decide) (by rw [c5]; rfl) (by decide) ?_
      refine lv_aload_n hx hb dX8_now_67 rfl (lv_at hl 0 rfl) ?_
      refine va_get (D := D) (ci := 7) (v := .ref aM_d) (C := RX8) (T := TX8) (N := 43) hx hb hts in_X8 hown hK hP 0 rfl rfl 0 (by decide) q2 (fun _ h9 => h9) rfl dX8_now_68 ?_
      refine lv_iconst (v := 3) hx hb dX8_now_71 (by decide) ?_
      refine va_iald hx hb hK hP 1 0 rfl rfl (by unfold vp_in; decide) dX8_now_72 ?_
      obtain rfl := Option.some.inj h
      exact hret _ _ _ _ _ hP hD hS dX8_now_73 rfl rfl
    have h := br_neg c5 h
    by_cases c6 : x1 = 2
    · have h := br_pos c6 h
      refine lv_tableIn (off := 51) (tgt := 74) hx hb dX8_now_23 (by rw [c6]; decide) (by rw [c6]; decide) (by rw [c6]; rfl) (by decide) ?_
      refine lv_aload_n hx hb dX8_now_74 rfl (lv_at hl 0 rfl) ?_
      refine lv_iconst (v := 4) hx hb dX8_now_75 (by decide) ?_
      obtain ⟨u10, hu10, h⟩ := bd_some h
      refine cl_Vi (rest := []) F hK hP hD hS hA hl (t_X8_sumOf l D cyI cyJ cyZ cyB cyO aM aM_d aM_e aM_f aM_kept aM_found aM_tape aM_came aM_got aM_held aM_off aM_comesUp aM_comesDown aM_path aM_gets aM_gotNow aM_bitsOf aM_sizeOf aM_number aM_passing vM_isKept vM_taped u3.1 u3.2.1 u3.2.2.1 vM_up vM_down vM_sharesUp vM_sharesDown vM_onUp vM_onDown vM_great vM_triedOff vM_triedLeaked vM_triedKept vM_fitting vM_firstSet vM_inAll vM_inAny vM_at vM_sort vM_from vM_value vM_fault cM_d (4 : Int32) u10 hu10) (cwV 1 hts gX8_now_X8_sumOf rfl rfl rfl (by decide +kernel) ⟨Nat.le_of_ble_eq_true rfl, Nat.le_of_ble_eq_true rfl⟩) 0 [0, 1] [1, 2, 0, 0, 0, 0, 0] [] (w_X8_now cyI cyJ cyZ cyB cyO aM aM_d aM_came aM_got aM_held aM_off aM_found aM_e aM_f aM_kept aM_tape aM_comesUp aM_comesDown aM_path aM_gets aM_gotNow aM_bitsOf aM_sizeOf aM_number aM_passing vM_isKept vM_taped u3.1 u3.2.1 u3.2.2.1 vM_up vM_down vM_sharesUp vM_sharesDown vM_onUp vM_onDown vM_great vM_triedOff vM_triedLeaked vM_triedKept vM_fitting vM_firstSet vM_inAll vM_inAny vM_at vM_sort vM_from vM_value vM_fault cM_d u3.2.2.2.1 u3.2.2.2.2.1 u3.2.2.2.2.2.1 u3.2.2.2.2.2.2 cM_found) rfl rfl rfl rfl rfl (by decide +kernel) rfl rfl (Nat.le_of_ble_eq_true rfl) ⟨Nat.zero_le _, Nat.zero_le _⟩ dX8_now_76 (fun H locs hP hD hS => ?_)
      obtain rfl := Option.some.inj h
      exact hret _ _ _ _ _ hP hD hS dX8_now_79 rfl rfl
    have h := br_neg c6 h
    by_cases c7 : x1 = 3
    · have h := br_pos c7 h
      refine lv_tableIn (off := 57) (tgt := 80) hx hb dX8_now_23 (by rw [c7]; decide) (by rw [c7]; decide) (by rw [c7]; rfl) (by decide) ?_
      refine lv_aload_n hx hb dX8_now_80 rfl (lv_at hl 0 rfl) ?_
      refine lv_iconst (v := 3) hx hb dX8_now_81 (by decide) ?_
      obtain ⟨u11, hu11, h⟩ := bd_some h
      refine cl_Vi (rest := []) F hK hP hD hS hA hl (t_X8_sumOf l D cyI cyJ cyZ cyB cyO aM aM_d aM_e aM_f aM_kept aM_found aM_tape aM_came aM_got aM_held aM_off aM_comesUp aM_comesDown aM_path aM_gets aM_gotNow aM_bitsOf aM_sizeOf aM_number aM_passing vM_isKept vM_taped u3.1 u3.2.1 u3.2.2.1 vM_up vM_down vM_sharesUp vM_sharesDown vM_onUp vM_onDown vM_great vM_triedOff vM_triedLeaked vM_triedKept vM_fitting vM_firstSet vM_inAll vM_inAny vM_at vM_sort vM_from vM_value vM_fault cM_d (3 : Int32) u11 hu11) (cwV 1 hts gX8_now_X8_sumOf rfl rfl rfl (by decide +kernel) ⟨Nat.le_of_ble_eq_true rfl, Nat.le_of_ble_eq_true rfl⟩) 0 [0, 1] [1, 2, 0, 0, 0, 0, 0] [] (w_X8_now cyI cyJ cyZ cyB cyO aM aM_d aM_came aM_got aM_held aM_off aM_found aM_e aM_f aM_kept aM_tape aM_comesUp aM_comesDown aM_path aM_gets aM_gotNow aM_bitsOf aM_sizeOf aM_number aM_passing vM_isKept vM_taped u3.1 u3.2.1 u3.2.2.1 vM_up vM_down vM_sharesUp vM_sharesDown vM_onUp vM_onDown vM_great vM_triedOff vM_triedLeaked vM_triedKept vM_fitting vM_firstSet vM_inAll vM_inAny vM_at vM_sort vM_from vM_value vM_fault cM_d u3.2.2.2.1 u3.2.2.2.2.1 u3.2.2.2.2.2.1 u3.2.2.2.2.2.2 cM_found) rfl rfl rfl rfl rfl (by decide +kernel) rfl rfl (Nat.le_of_ble_eq_true rfl) ⟨Nat.zero_le _, Nat.zero_le _⟩ dX8_now_82 (fun H locs hP hD hS => ?_)
      obtain rfl := Option.some.inj h
      exact hret _ _ _ _ _ hP hD hS dX8_now_85 rfl rfl
    have h := br_neg c7 h
    by_cases c8 : x1 = 4
    · have h := br_pos c8 h
      refine lv_tableIn (off := 63) (tgt := 86) hx hb dX8_now_23 (by rw [c8]; decide) (by rw [c8]; decide) (by rw [c8]; rfl) (by decide) ?_
      refine lv_aload_n hx hb dX8_now_86 rfl (lv_at hl 0 rfl) ?_
      refine va_get (D := D) (ci := 7) (v := .int u3.2.2.1) (C := RX8) (T := TX8) (N := 43) hx hb hts in_X8 hown hK hP 0 rfl rfl 14 (by decide) q3 (fun _ h9 => h9) rfl dX8_now_87 ?_
      obtain rfl := Option.some.inj h
      exact hret _ _ _ _ _ hP hD hS dX8_now_90 rfl rfl
    have h := br_neg c8 h
    by_cases c9 : x1 = 5
    · have h := br_pos c9 h
      refine lv_tableIn (off := 68) (tgt := 91) hx hb dX8_now_23 (by rw [c9]; decide) (by rw [c9]; decide) (by rw [c9]; rfl) (by decide) ?_
      refine lv_aload_n hx hb dX8_now_91 rfl (lv_at hl 0 rfl) ?_
      refine va_get (D := D) (ci := 7) (v := .int u3.1) (C := RX8) (T := TX8) (N := 43) hx hb hts in_X8 hown hK hP 0 rfl rfl 12 (by decide) q4 (fun _ h9 => h9) rfl dX8_now_92 ?_
      obtain rfl := Option.some.inj h
      exact hret _ _ _ _ _ hP hD hS dX8_now_95 rfl rfl
    have h := br_neg c9 h
    refine lv_tableOut (tgt := 96) hx hb dX8_now_23 (sw_c c4 (sw_c c5 (sw_c c6 (sw_c c7 (sw_c c8 (sw_c c9 (sw_n (by decide)))))))) (by decide) ?_
    refine lv_aload_n hx hb dX8_now_96 rfl (lv_at hl 0 rfl) ?_
    refine va_get (D := D) (ci := 7) (v := .int u3.2.1) (C := RX8) (T := TX8) (N := 43) hx hb hts in_X8 hown hK hP 0 rfl rfl 13 (by decide) q5 (fun _ h9 => h9) rfl dX8_now_97 ?_
    obtain rfl := Option.some.inj h
    exact hret _ _ _ _ _ hP hD hS dX8_now_100 rfl rfl
  · have h := br_pos c2 h
    refine lv_aload_n hx hb dX8_now_12 rfl (lv_at hl 0 rfl) ?_
    refine lv_iconst (v := 0) hx hb dX8_now_13 (by decide) ?_
    obtain ⟨u12, hu12, h⟩ := bd_some h
    refine cl_Vi (rest := []) F hK hP hD hS hA hl (t_X8_finds l D cyI cyJ cyZ cyB cyO aM aM_found aM_d aM_e aM_f aM_kept aM_tape aM_came aM_got aM_held aM_off aM_comesUp aM_comesDown aM_path aM_gets aM_gotNow aM_bitsOf aM_sizeOf aM_number aM_passing vM_isKept vM_taped vM_leaked vM_keptAll vM_offAll vM_up vM_down vM_sharesUp vM_sharesDown vM_onUp vM_onDown vM_great vM_triedOff vM_triedLeaked vM_triedKept vM_fitting vM_firstSet vM_inAll vM_inAny vM_at vM_sort vM_from vM_value vM_fault cM_found (0 : Int32) u12 hu12) (cwV 1 hts gX8_now_X8_finds rfl rfl rfl (by decide +kernel) ⟨Nat.le_of_ble_eq_true rfl, Nat.le_of_ble_eq_true rfl⟩) 0 [0, 6] [1, 0, 0, 0, 0, 0, 2] [] (w_X8_now cyI cyJ cyZ cyB cyO aM aM_d aM_came aM_got aM_held aM_off aM_found aM_e aM_f aM_kept aM_tape aM_comesUp aM_comesDown aM_path aM_gets aM_gotNow aM_bitsOf aM_sizeOf aM_number aM_passing vM_isKept vM_taped vM_leaked vM_keptAll vM_offAll vM_up vM_down vM_sharesUp vM_sharesDown vM_onUp vM_onDown vM_great vM_triedOff vM_triedLeaked vM_triedKept vM_fitting vM_firstSet vM_inAll vM_inAny vM_at vM_sort vM_from vM_value vM_fault cM_d cM_came cM_got cM_held cM_off u12.2) rfl rfl rfl rfl rfl (by decide +kernel) rfl rfl (Nat.le_of_ble_eq_true rfl) ⟨Nat.zero_le _, Nat.zero_le _⟩ dX8_now_14 (fun H locs hP hD hS => ?_)
    obtain rfl := Option.some.inj h
    exact hret _ _ _ _ _ hP hD hS dX8_now_17 rfl rfl
/-! ===== X8_tries ===== -/
def w_X8_tries (cyI cyJ cyZ cyB cyO : ClassId) (aM aM_d aM_f aM_came aM_got aM_held aM_off aM_gets aM_e aM_kept aM_found aM_tape aM_comesUp aM_comesDown aM_path aM_gotNow aM_bitsOf aM_sizeOf aM_number aM_passing : Nat) (vM_isKept : Int32) (vM_taped : Int32) (vM_leaked : Int32) (vM_keptAll : Int32) (vM_offAll : Int32) (vM_up : Int64) (vM_down : Int64) (vM_sharesUp : Int64) (vM_sharesDown : Int64) (vM_onUp : Int64) (vM_onDown : Int64) (vM_great : Int32) (vM_triedOff : Int32) (vM_triedLeaked : Int32) (vM_triedKept : Int32) (vM_fitting : Int32) (vM_firstSet : Int32) (vM_inAll : Int32) (vM_inAny : Int32) (vM_at : Int32) (vM_sort : Int32) (vM_from : Int32) (vM_value : Int64) (vM_fault : Int32) (cM_d : Nat → Int32) (cM_f : Nat → Int32) (cM_came : Nat → Int32) (cM_got : Nat → Int32) (cM_held : Nat → Int32) (cM_off : Nat → Int32) (cM_gets : Nat → Int32) : va_W := [(aM, .inr (7, [.ref aM_d, .ref aM_e, .ref aM_f, .ref aM_kept, .int vM_isKept, .ref aM_found, .ref aM_tape, .int vM_taped, .ref aM_came, .ref aM_got, .ref aM_held, .ref aM_off, .int vM_leaked, .int vM_keptAll, .int vM_offAll, .ref aM_comesUp, .ref aM_comesDown, .long vM_up, .long vM_down, .long vM_sharesUp, .long vM_sharesDown, .long vM_onUp, .long vM_onDown, .int vM_great, .ref aM_path, .ref aM_gets, .int vM_triedOff, .int vM_triedLeaked, .int vM_triedKept, .ref aM_gotNow, .int vM_fitting, .int vM_firstSet, .int vM_inAll, .int vM_inAny, .int vM_at, .int vM_sort, .int vM_from, .long vM_value, .int vM_fault, .ref aM_bitsOf, .ref aM_sizeOf, .ref aM_number, .ref aM_passing])), (aM_d, .inl (cyI, 64, .inl cM_d)), (aM_f, .inl (cyI, 64, .inl cM_f)), (aM_came, .inl (cyI, 10, .inl cM_came)), (aM_got, .inl (cyI, 10, .inl cM_got)), (aM_held, .inl (cyI, 10, .inl cM_held)), (aM_off, .inl (cyI, 10, .inl cM_off)), (aM_gets, .inl (cyI, 10, .inl cM_gets))]
set_option maxHeartbeats 4000000 in
set_option maxRecDepth 100000 in
theorem t_X8_tries (l : Launch) (D : va_G) (cyI cyJ cyZ cyB cyO : ClassId) (aM aM_d aM_f aM_came aM_got aM_held aM_off aM_gets aM_e aM_kept aM_found aM_tape aM_comesUp aM_comesDown aM_path aM_gotNow aM_bitsOf aM_sizeOf aM_number aM_passing : Nat) (vM_isKept : Int32) (vM_taped : Int32) (vM_leaked : Int32) (vM_keptAll : Int32) (vM_offAll : Int32) (vM_up : Int64) (vM_down : Int64) (vM_sharesUp : Int64) (vM_sharesDown : Int64) (vM_onUp : Int64) (vM_onDown : Int64) (vM_great : Int32) (vM_triedOff : Int32) (vM_triedLeaked : Int32) (vM_triedKept : Int32) (vM_fitting : Int32) (vM_firstSet : Int32) (vM_inAll : Int32) (vM_inAny : Int32) (vM_at : Int32) (vM_sort : Int32) (vM_from : Int32) (vM_value : Int64) (vM_fault : Int32) (cM_d : Nat → Int32) (cM_f : Nat → Int32) (cM_came : Nat → Int32) (cM_got : Nat → Int32) (cM_held : Nat → Int32) (cM_off : Nat → Int32) (cM_gets : Nat → Int32) (x1 : Int32) (out : Int32 × Int32 × Int32 × Int32 × Int32 × Int32 × (Nat → Int32) × (Nat → Int32) × (Nat → Int32) × (Nat → Int32) × (Nat → Int32) × (Nat → Int32) × (Nat → Int32)) (h : f_X8_tries x1 vM_leaked vM_keptAll vM_offAll vM_triedOff vM_triedLeaked vM_triedKept cM_d cM_f cM_came cM_got cM_held cM_off cM_gets = some out) : Mv l yX8_tries wsX8_tries ({ frames := 4, cells := 0, slots := 0, locals := 95 } : Room) D (tyA cyI cyJ cyZ cyB cyO) [.ref aM, .int x1] (w_X8_tries cyI cyJ cyZ cyB cyO aM aM_d aM_f aM_came aM_got aM_held aM_off aM_gets aM_e aM_kept aM_found aM_tape aM_comesUp aM_comesDown aM_path aM_gotNow aM_bitsOf aM_sizeOf aM_number aM_passing vM_isKept vM_taped vM_leaked vM_keptAll vM_offAll vM_up vM_down vM_sharesUp vM_sharesDown vM_onUp vM_onDown vM_great vM_triedOff vM_triedLeaked vM_triedKept vM_fitting vM_firstSet vM_inAll vM_inAny vM_at vM_sort vM_from vM_value vM_fault cM_d cM_f cM_came cM_got cM_held cM_off cM_gets) (w_X8_tries cyI cyJ cyZ cyB cyO aM aM_d aM_f aM_came aM_got aM_held aM_off aM_gets aM_e aM_kept aM_found aM_tape aM_comesUp aM_comesDown aM_path aM_gotNow aM_bitsOf aM_sizeOf aM_number aM_passing vM_isKept vM_taped out.1 out.2.1 out.2.2.1 vM_up vM_down vM_sharesUp vM_sharesDown vM_onUp vM_onDown vM_great out.2.2.2.1 out.2.2.2.2.1 out.2.2.2.2.2.1 vM_fitting vM_firstSet vM_inAll vM_inAny vM_at vM_sort vM_from vM_value vM_fault out.2.2.2.2.2.2.1 out.2.2.2.2.2.2.2.1 out.2.2.2.2.2.2.2.2.1 out.2.2.2.2.2.2.2.2.2.1 out.2.2.2.2.2.2.2.2.2.2.1 out.2.2.2.2.2.2.2.2.2.2.2.1 out.2.2.2.2.2.2.2.2.2.2.2.2) := by
  refine Mv.mk (cc := cX8_tries) (maxL := 4) (own := RX8) (by decide) rfl rfl (Nat.le_of_ble_eq_true rfl) ?_
  intro p e s m args below meth c A Q F hK hP hD hA hret ls hl
  obtain ⟨hx, hb, hml, hown, hts⟩ := id F
  have hS : va_S A s.heap s.heap [] := va_S.rf
  have hl : lv_has ls 4 [(0, .ref aM), (1, .int x1)] := hl
  have in_X8 : ∀ w ∈ wsX80, w ∈ wsX8_tries := by decide +kernel
  have q1 := hts (Cond.fieldLink RX8 7 "ThirdFountainModel" "d" "[I") (List.mem_of_getElem? (i := 1) rfl)
  have q2 := hts (Cond.fieldLink RX8 16 "ThirdFountainModel" "f" "[I") (List.mem_of_getElem? (i := 2) rfl)
  have q11 := hts (Cond.methodLink RX8 189 yX8_copies) (List.mem_of_getElem? (i := 11) rfl)
  have q3 := hts (Cond.fieldLink RX8 215 "ThirdFountainModel" "triedOff" "I") (List.mem_of_getElem? (i := 3) rfl)
  have q4 := hts (Cond.fieldLink RX8 218 "ThirdFountainModel" "triedLeaked" "I") (List.mem_of_getElem? (i := 4) rfl)
  have q5 := hts (Cond.fieldLink RX8 221 "ThirdFountainModel" "triedKept" "I") (List.mem_of_getElem? (i := 5) rfl)
  have q15 := hts (Cond.methodLink RX8 201 yX8_anHour) (List.mem_of_getElem? (i := 15) rfl)
  have q7 := hts (Cond.fieldLink RX8 85 "ThirdFountainModel" "offAll" "I") (List.mem_of_getElem? (i := 7) rfl)
  have q8 := hts (Cond.fieldLink RX8 78 "ThirdFountainModel" "leaked" "I") (List.mem_of_getElem? (i := 8) rfl)
  have q9 := hts (Cond.fieldLink RX8 82 "ThirdFountainModel" "keptAll" "I") (List.mem_of_getElem? (i := 9) rfl)
  have q6 := hts (Cond.fieldLink RX8 51 "ThirdFountainModel" "gets" "[I") (List.mem_of_getElem? (i := 6) rfl)
  have q10 := hts (Cond.fieldLink RX8 32 "ThirdFountainModel" "got" "[I") (List.mem_of_getElem? (i := 10) rfl)
  unfold f_X8_tries at h
  refine lv_aload_n hx hb dX8_tries_0 rfl (lv_at hl 0 rfl) ?_
  refine va_get (D := D) (ci := 7) (v := .ref aM_d) (C := RX8) (T := TX8) (N := 43) hx hb hts in_X8 hown hK hP 0 rfl rfl 0 (by decide) q1 (fun _ h9 => h9) rfl dX8_tries_1 ?_
  refine lv_aload_n hx hb dX8_tries_4 rfl (lv_at hl 0 rfl) ?_
  refine va_get (D := D) (ci := 7) (v := .ref aM_f) (C := RX8) (T := TX8) (N := 43) hx hb hts in_X8 hown hK hP 0 rfl rfl 2 (by decide) q2 (fun _ h9 => h9) rfl dX8_tries_5 ?_
  obtain ⟨u1, hu1, h⟩ := bd_some h
  refine cl_Sv (rest := []) F hK hP hD hS hA hl (t_X8_copies l D cyI cyJ cyZ cyB cyO aM_d aM_f cM_d cM_f u1 hu1) (va_cwS 2 hts gX8_tries_X8_copies rfl rfl rfl (by decide +kernel) ⟨Nat.le_of_ble_eq_true rfl, Nat.le_of_ble_eq_true rfl⟩) [1, 2] [0, 1, 2, 0, 0, 0, 0, 0] [] (w_X8_tries cyI cyJ cyZ cyB cyO aM aM_d aM_f aM_came aM_got aM_held aM_off aM_gets aM_e aM_kept aM_found aM_tape aM_comesUp aM_comesDown aM_path aM_gotNow aM_bitsOf aM_sizeOf aM_number aM_passing vM_isKept vM_taped vM_leaked vM_keptAll vM_offAll vM_up vM_down vM_sharesUp vM_sharesDown vM_onUp vM_onDown vM_great vM_triedOff vM_triedLeaked vM_triedKept vM_fitting vM_firstSet vM_inAll vM_inAny vM_at vM_sort vM_from vM_value vM_fault cM_d u1 cM_came cM_got cM_held cM_off cM_gets) rfl rfl rfl (by decide +kernel) rfl rfl (Nat.le_of_ble_eq_true rfl) ⟨Nat.zero_le _, Nat.zero_le _⟩ dX8_tries_8 (fun H locs hP hD hS => ?_)
  refine lv_aload_n hx hb dX8_tries_11 rfl (lv_at hl 0 rfl) ?_
  refine lv_iconst (v := 0) hx hb dX8_tries_12 (by decide) ?_
  refine va_put (D := D) (ci := 7) (v := .int (0 : Int32)) (ty := .int) (C := RX8) (T := TX8) (N := 43) hx hb hts in_X8 tyX8 tyX8_ok nmX8 hown hK hP hD hS 0 rfl rfl 26 (by decide) q3 (fun _ h9 => h9) rfl (by decide +kernel) rfl rfl (Nat.le_of_ble_eq_true rfl) dX8_tries_13 (fun H locs hP hD hS => ?_)
  have hP : va_P D vwCl (w_X8_tries cyI cyJ cyZ cyB cyO aM aM_d aM_f aM_came aM_got aM_held aM_off aM_gets aM_e aM_kept aM_found aM_tape aM_comesUp aM_comesDown aM_path aM_gotNow aM_bitsOf aM_sizeOf aM_number aM_passing vM_isKept vM_taped vM_leaked vM_keptAll vM_offAll vM_up vM_down vM_sharesUp vM_sharesDown vM_onUp vM_onDown vM_great (0 : Int32) vM_triedLeaked vM_triedKept vM_fitting vM_firstSet vM_inAll vM_inAny vM_at vM_sort vM_from vM_value vM_fault cM_d u1 cM_came cM_got cM_held cM_off cM_gets) H := hP
  have hD : va_D A (w_X8_tries cyI cyJ cyZ cyB cyO aM aM_d aM_f aM_came aM_got aM_held aM_off aM_gets aM_e aM_kept aM_found aM_tape aM_comesUp aM_comesDown aM_path aM_gotNow aM_bitsOf aM_sizeOf aM_number aM_passing vM_isKept vM_taped vM_leaked vM_keptAll vM_offAll vM_up vM_down vM_sharesUp vM_sharesDown vM_onUp vM_onDown vM_great (0 : Int32) vM_triedLeaked vM_triedKept vM_fitting vM_firstSet vM_inAll vM_inAny vM_at vM_sort vM_from vM_value vM_fault cM_d u1 cM_came cM_got cM_held cM_off cM_gets) := hD
  refine lv_aload_n hx hb dX8_tries_16 rfl (lv_at hl 0 rfl) ?_
  refine lv_iconst (v := 0) hx hb dX8_tries_17 (by decide) ?_
  refine va_put (D := D) (ci := 7) (v := .int (0 : Int32)) (ty := .int) (C := RX8) (T := TX8) (N := 43) hx hb hts in_X8 tyX8 tyX8_ok nmX8 hown hK hP hD hS 0 rfl rfl 27 (by decide) q4 (fun _ h9 => h9) rfl (by decide +kernel) rfl rfl (Nat.le_of_ble_eq_true rfl) dX8_tries_18 (fun H locs hP hD hS => ?_)
  have hP : va_P D vwCl (w_X8_tries cyI cyJ cyZ cyB cyO aM aM_d aM_f aM_came aM_got aM_held aM_off aM_gets aM_e aM_kept aM_found aM_tape aM_comesUp aM_comesDown aM_path aM_gotNow aM_bitsOf aM_sizeOf aM_number aM_passing vM_isKept vM_taped vM_leaked vM_keptAll vM_offAll vM_up vM_down vM_sharesUp vM_sharesDown vM_onUp vM_onDown vM_great (0 : Int32) (0 : Int32) vM_triedKept vM_fitting vM_firstSet vM_inAll vM_inAny vM_at vM_sort vM_from vM_value vM_fault cM_d u1 cM_came cM_got cM_held cM_off cM_gets) H := hP
  have hD : va_D A (w_X8_tries cyI cyJ cyZ cyB cyO aM aM_d aM_f aM_came aM_got aM_held aM_off aM_gets aM_e aM_kept aM_found aM_tape aM_comesUp aM_comesDown aM_path aM_gotNow aM_bitsOf aM_sizeOf aM_number aM_passing vM_isKept vM_taped vM_leaked vM_keptAll vM_offAll vM_up vM_down vM_sharesUp vM_sharesDown vM_onUp vM_onDown vM_great (0 : Int32) (0 : Int32) vM_triedKept vM_fitting vM_firstSet vM_inAll vM_inAny vM_at vM_sort vM_from vM_value vM_fault cM_d u1 cM_came cM_got cM_held cM_off cM_gets) := hD
  refine lv_aload_n hx hb dX8_tries_21 rfl (lv_at hl 0 rfl) ?_
  refine lv_iconst (v := 0) hx hb dX8_tries_22 (by decide) ?_
  refine va_put (D := D) (ci := 7) (v := .int (0 : Int32)) (ty := .int) (C := RX8) (T := TX8) (N := 43) hx hb hts in_X8 tyX8 tyX8_ok nmX8 hown hK hP hD hS 0 rfl rfl 28 (by decide) q5 (fun _ h9 => h9) rfl (by decide +kernel) rfl rfl (Nat.le_of_ble_eq_true rfl) dX8_tries_23 (fun H locs hP hD hS => ?_)
  have hP : va_P D vwCl (w_X8_tries cyI cyJ cyZ cyB cyO aM aM_d aM_f aM_came aM_got aM_held aM_off aM_gets aM_e aM_kept aM_found aM_tape aM_comesUp aM_comesDown aM_path aM_gotNow aM_bitsOf aM_sizeOf aM_number aM_passing vM_isKept vM_taped vM_leaked vM_keptAll vM_offAll vM_up vM_down vM_sharesUp vM_sharesDown vM_onUp vM_onDown vM_great (0 : Int32) (0 : Int32) (0 : Int32) vM_fitting vM_firstSet vM_inAll vM_inAny vM_at vM_sort vM_from vM_value vM_fault cM_d u1 cM_came cM_got cM_held cM_off cM_gets) H := hP
  have hD : va_D A (w_X8_tries cyI cyJ cyZ cyB cyO aM aM_d aM_f aM_came aM_got aM_held aM_off aM_gets aM_e aM_kept aM_found aM_tape aM_comesUp aM_comesDown aM_path aM_gotNow aM_bitsOf aM_sizeOf aM_number aM_passing vM_isKept vM_taped vM_leaked vM_keptAll vM_offAll vM_up vM_down vM_sharesUp vM_sharesDown vM_onUp vM_onDown vM_great (0 : Int32) (0 : Int32) (0 : Int32) vM_fitting vM_firstSet vM_inAll vM_inAny vM_at vM_sort vM_from vM_value vM_fault cM_d u1 cM_came cM_got cM_held cM_off cM_gets) := hD
  refine lv_iconst (v := 0) hx hb dX8_tries_26 (by decide) ?_
  refine lv_istore_n (lv' := [(2, .int (0 : Int32)), (0, .ref aM), (1, .int x1)]) hx hb dX8_tries_27 rfl hl (by decide) rfl (fun ls hl => ?_)
  have lp28 : ∀ (k28 : Nat) (y2 : Int32) (vM_leaked : Int32) (vM_keptAll : Int32) (vM_offAll : Int32) (vM_triedOff : Int32) (vM_triedLeaked : Int32) (vM_triedKept : Int32) (cM_d : Nat → Int32) (cM_f : Nat → Int32) (cM_came : Nat → Int32) (cM_got : Nat → Int32) (cM_held : Nat → Int32) (cM_off : Nat → Int32) (cM_gets : Nat → Int32) (H : Heap) (locs : List Loc) (ls : Array Slot), va_P D vwCl (w_X8_tries cyI cyJ cyZ cyB cyO aM aM_d aM_f aM_came aM_got aM_held aM_off aM_gets aM_e aM_kept aM_found aM_tape aM_comesUp aM_comesDown aM_path aM_gotNow aM_bitsOf aM_sizeOf aM_number aM_passing vM_isKept vM_taped vM_leaked vM_keptAll vM_offAll vM_up vM_down vM_sharesUp vM_sharesDown vM_onUp vM_onDown vM_great vM_triedOff vM_triedLeaked vM_triedKept vM_fitting vM_firstSet vM_inAll vM_inAny vM_at vM_sort vM_from vM_value vM_fault cM_d cM_f cM_came cM_got cM_held cM_off cM_gets) H → va_D A (w_X8_tries cyI cyJ cyZ cyB cyO aM aM_d aM_f aM_came aM_got aM_held aM_off aM_gets aM_e aM_kept aM_found aM_tape aM_comesUp aM_comesDown aM_path aM_gotNow aM_bitsOf aM_sizeOf aM_number aM_passing vM_isKept vM_taped vM_leaked vM_keptAll vM_offAll vM_up vM_down vM_sharesUp vM_sharesDown vM_onUp vM_onDown vM_great vM_triedOff vM_triedLeaked vM_triedKept vM_fitting vM_firstSet vM_inAll vM_inAny vM_at vM_sort vM_from vM_value vM_fault cM_d cM_f cM_came cM_got cM_held cM_off cM_gets) → va_S A s.heap H locs → lv_has ls 4 [(2, .int y2), (0, .ref aM), (1, .int x1)] → (f_X8_tries_L28 x1 k28) (y2, vM_leaked, vM_keptAll, vM_offAll, vM_triedOff, vM_triedLeaked, vM_triedKept, cM_d, cM_f, cM_came, cM_got, cM_held, cM_off, cM_gets) = some out → W p l e ({ frames := 4, cells := 0, slots := 0, locals := 95 } : Room) s m args below meth c H locs 0 0 Q (F0 m 28 ls []) := by
    intro k28
    induction k28 with
    | zero => intro y2 vM_leaked vM_keptAll vM_offAll vM_triedOff vM_triedLeaked vM_triedKept cM_d cM_f cM_came cM_got cM_held cM_off cM_gets H locs ls hP hD hS hl h; cases h
    | succ k28 ih28 =>
      intro y2 vM_leaked vM_keptAll vM_offAll vM_triedOff vM_triedLeaked vM_triedKept cM_d cM_f cM_came cM_got cM_held cM_off cM_gets H locs ls hP hD hS hl h
      have h : f_X8_tries_L28_b x1 (f_X8_tries_L28 x1 k28) y2 vM_leaked vM_keptAll vM_offAll vM_triedOff vM_triedLeaked vM_triedKept cM_d cM_f cM_came cM_got cM_held cM_off cM_gets = some out := h
      unfold f_X8_tries_L28_b at h
      refine lv_iload_n hx hb dX8_tries_28 rfl (lv_at hl 0 rfl) ?_
      refine lv_bipush (v := 10) hx hb dX8_tries_29 (by decide) ?_
      refine lv_icmp_ge (tgt := 47) hx hb dX8_tries_31 (by decide) (fun c2 => ?_) (fun c2 => ?_)
      · have h := br_pos c2 h
        refine lv_iconst (v := 0) hx hb dX8_tries_47 (by decide) ?_
        refine lv_istore_n (lv' := [(2, .int (0 : Int32)), (0, .ref aM), (1, .int x1)]) hx hb dX8_tries_48 rfl hl (by decide) rfl (fun ls hl => ?_)
        have lp49 : ∀ (k49 : Nat) (y2 : Int32) (vM_leaked : Int32) (vM_keptAll : Int32) (vM_offAll : Int32) (vM_triedOff : Int32) (vM_triedLeaked : Int32) (vM_triedKept : Int32) (cM_d : Nat → Int32) (cM_f : Nat → Int32) (cM_came : Nat → Int32) (cM_got : Nat → Int32) (cM_held : Nat → Int32) (cM_off : Nat → Int32) (cM_gets : Nat → Int32) (H : Heap) (locs : List Loc) (ls : Array Slot), va_P D vwCl (w_X8_tries cyI cyJ cyZ cyB cyO aM aM_d aM_f aM_came aM_got aM_held aM_off aM_gets aM_e aM_kept aM_found aM_tape aM_comesUp aM_comesDown aM_path aM_gotNow aM_bitsOf aM_sizeOf aM_number aM_passing vM_isKept vM_taped vM_leaked vM_keptAll vM_offAll vM_up vM_down vM_sharesUp vM_sharesDown vM_onUp vM_onDown vM_great vM_triedOff vM_triedLeaked vM_triedKept vM_fitting vM_firstSet vM_inAll vM_inAny vM_at vM_sort vM_from vM_value vM_fault cM_d cM_f cM_came cM_got cM_held cM_off cM_gets) H → va_D A (w_X8_tries cyI cyJ cyZ cyB cyO aM aM_d aM_f aM_came aM_got aM_held aM_off aM_gets aM_e aM_kept aM_found aM_tape aM_comesUp aM_comesDown aM_path aM_gotNow aM_bitsOf aM_sizeOf aM_number aM_passing vM_isKept vM_taped vM_leaked vM_keptAll vM_offAll vM_up vM_down vM_sharesUp vM_sharesDown vM_onUp vM_onDown vM_great vM_triedOff vM_triedLeaked vM_triedKept vM_fitting vM_firstSet vM_inAll vM_inAny vM_at vM_sort vM_from vM_value vM_fault cM_d cM_f cM_came cM_got cM_held cM_off cM_gets) → va_S A s.heap H locs → lv_has ls 4 [(2, .int y2), (0, .ref aM), (1, .int x1)] → (f_X8_tries_L49 x1 k49) (y2, vM_leaked, vM_keptAll, vM_offAll, vM_triedOff, vM_triedLeaked, vM_triedKept, cM_d, cM_f, cM_came, cM_got, cM_held, cM_off, cM_gets) = some out → W p l e ({ frames := 4, cells := 0, slots := 0, locals := 95 } : Room) s m args below meth c H locs 0 0 Q (F0 m 49 ls []) := by
          intro k49
          induction k49 with
          | zero => intro y2 vM_leaked vM_keptAll vM_offAll vM_triedOff vM_triedLeaked vM_triedKept cM_d cM_f cM_came cM_got cM_held cM_off cM_gets H locs ls hP hD hS hl h; cases h
          | succ k49 ih49 =>
            intro y2 vM_leaked vM_keptAll vM_offAll vM_triedOff vM_triedLeaked vM_triedKept cM_d cM_f cM_came cM_got cM_held cM_off cM_gets H locs ls hP hD hS hl h
            have h : f_X8_tries_L49_b x1 (f_X8_tries_L49 x1 k49) y2 vM_leaked vM_keptAll vM_offAll vM_triedOff vM_triedLeaked vM_triedKept cM_d cM_f cM_came cM_got cM_held cM_off cM_gets = some out := h
            unfold f_X8_tries_L49_b at h
            refine lv_iload_n hx hb dX8_tries_49 rfl (lv_at hl 0 rfl) ?_
            refine lv_iload_n hx hb dX8_tries_50 rfl (lv_at hl 2 rfl) ?_
            have j136 : ∀ (vM_leaked : Int32) (vM_keptAll : Int32) (vM_offAll : Int32) (vM_triedOff : Int32) (vM_triedLeaked : Int32) (vM_triedKept : Int32) (cM_d : Nat → Int32) (cM_f : Nat → Int32) (cM_came : Nat → Int32) (cM_got : Nat → Int32) (cM_held : Nat → Int32) (cM_off : Nat → Int32) (cM_gets : Nat → Int32) (H : Heap) (locs : List Loc) (ls : Array Slot), va_P D vwCl (w_X8_tries cyI cyJ cyZ cyB cyO aM aM_d aM_f aM_came aM_got aM_held aM_off aM_gets aM_e aM_kept aM_found aM_tape aM_comesUp aM_comesDown aM_path aM_gotNow aM_bitsOf aM_sizeOf aM_number aM_passing vM_isKept vM_taped vM_leaked vM_keptAll vM_offAll vM_up vM_down vM_sharesUp vM_sharesDown vM_onUp vM_onDown vM_great vM_triedOff vM_triedLeaked vM_triedKept vM_fitting vM_firstSet vM_inAll vM_inAny vM_at vM_sort vM_from vM_value vM_fault cM_d cM_f cM_came cM_got cM_held cM_off cM_gets) H → va_D A (w_X8_tries cyI cyJ cyZ cyB cyO aM aM_d aM_f aM_came aM_got aM_held aM_off aM_gets aM_e aM_kept aM_found aM_tape aM_comesUp aM_comesDown aM_path aM_gotNow aM_bitsOf aM_sizeOf aM_number aM_passing vM_isKept vM_taped vM_leaked vM_keptAll vM_offAll vM_up vM_down vM_sharesUp vM_sharesDown vM_onUp vM_onDown vM_great vM_triedOff vM_triedLeaked vM_triedKept vM_fitting vM_firstSet vM_inAll vM_inAny vM_at vM_sort vM_from vM_value vM_fault cM_d cM_f cM_came cM_got cM_held cM_off cM_gets) → va_S A s.heap H locs → lv_has ls 4 [(0, .ref aM)] → f_X8_tries_J136 x1 vM_leaked vM_keptAll vM_offAll vM_triedOff vM_triedLeaked vM_triedKept cM_d cM_f cM_came cM_got cM_held cM_off cM_gets = some out → W p l e ({ frames := 4, cells := 0, slots := 0, locals := 95 } : Room) s m args below meth c H locs 0 0 Q (F0 m 136 ls []) := by
              intro vM_leaked vM_keptAll vM_offAll vM_triedOff vM_triedLeaked vM_triedKept cM_d cM_f cM_came cM_got cM_held cM_off cM_gets H locs ls hP hD hS hl h
              unfold f_X8_tries_J136 at h
              refine lv_aload_n hx hb dX8_tries_136 rfl (lv_at hl 0 rfl) ?_
              refine va_get (D := D) (ci := 7) (v := .ref aM_f) (C := RX8) (T := TX8) (N := 43) hx hb hts in_X8 hown hK hP 0 rfl rfl 2 (by decide) q2 (fun _ h9 => h9) rfl dX8_tries_137 ?_
              refine lv_aload_n hx hb dX8_tries_140 rfl (lv_at hl 0 rfl) ?_
              refine va_get (D := D) (ci := 7) (v := .ref aM_d) (C := RX8) (T := TX8) (N := 43) hx hb hts in_X8 hown hK hP 0 rfl rfl 0 (by decide) q1 (fun _ h9 => h9) rfl dX8_tries_141 ?_
              obtain ⟨u3, hu3, h⟩ := bd_some h
              refine cl_Sv (rest := []) F hK hP hD hS hA hl (t_X8_copies l D cyI cyJ cyZ cyB cyO aM_f aM_d cM_f cM_d u3 hu3) (va_cwS 2 hts gX8_tries_X8_copies rfl rfl rfl (by decide +kernel) ⟨Nat.le_of_ble_eq_true rfl, Nat.le_of_ble_eq_true rfl⟩) [2, 1] [0, 2, 1, 0, 0, 0, 0, 0] [] (w_X8_tries cyI cyJ cyZ cyB cyO aM aM_d aM_f aM_came aM_got aM_held aM_off aM_gets aM_e aM_kept aM_found aM_tape aM_comesUp aM_comesDown aM_path aM_gotNow aM_bitsOf aM_sizeOf aM_number aM_passing vM_isKept vM_taped vM_leaked vM_keptAll vM_offAll vM_up vM_down vM_sharesUp vM_sharesDown vM_onUp vM_onDown vM_great vM_triedOff vM_triedLeaked vM_triedKept vM_fitting vM_firstSet vM_inAll vM_inAny vM_at vM_sort vM_from vM_value vM_fault u3 cM_f cM_came cM_got cM_held cM_off cM_gets) rfl rfl rfl (by decide +kernel) rfl rfl (Nat.le_of_ble_eq_true rfl) ⟨Nat.zero_le _, Nat.zero_le _⟩ dX8_tries_144 (fun H locs hP hD hS => ?_)
              obtain rfl := Option.some.inj h
              exact hret _ _ _ _ hP hD hS dX8_tries_147 
            refine lv_icmp_ge (tgt := 136) hx hb dX8_tries_51 (by decide) (fun c4 => ?_) (fun c4 => ?_)
            · have h := br_pos c4 h
              exact j136 vM_leaked vM_keptAll vM_offAll vM_triedOff vM_triedLeaked vM_triedKept cM_d cM_f cM_came cM_got cM_held cM_off cM_gets _ _ _ hP hD hS (lv_sub hl [1] rfl) h
            · have h := br_neg c4 h
              refine lv_aload_n hx hb dX8_tries_54 rfl (lv_at hl 1 rfl) ?_
              obtain ⟨u5, hu5, h⟩ := bd_some h
              refine cl_Vv (rest := []) F hK hP hD hS hA hl (t_X8_anHour l D cyI cyJ cyZ cyB cyO aM aM_d aM_came aM_got aM_held aM_off aM_e aM_f aM_kept aM_found aM_tape aM_comesUp aM_comesDown aM_path aM_gets aM_gotNow aM_bitsOf aM_sizeOf aM_number aM_passing vM_isKept vM_taped vM_leaked vM_keptAll vM_offAll vM_up vM_down vM_sharesUp vM_sharesDown vM_onUp vM_onDown vM_great vM_triedOff vM_triedLeaked vM_triedKept vM_fitting vM_firstSet vM_inAll vM_inAny vM_at vM_sort vM_from vM_value vM_fault cM_d cM_came cM_got cM_held cM_off u5 hu5) (cwV 0 hts gX8_tries_X8_anHour rfl rfl rfl (by decide +kernel) ⟨Nat.le_of_ble_eq_true rfl, Nat.le_of_ble_eq_true rfl⟩) 0 [0, 1, 3, 4, 5, 6] [1, 2, 0, 3, 4, 5, 6, 0] [] (w_X8_tries cyI cyJ cyZ cyB cyO aM aM_d aM_f aM_came aM_got aM_held aM_off aM_gets aM_e aM_kept aM_found aM_tape aM_comesUp aM_comesDown aM_path aM_gotNow aM_bitsOf aM_sizeOf aM_number aM_passing vM_isKept vM_taped u5.1 u5.2.1 u5.2.2.1 vM_up vM_down vM_sharesUp vM_sharesDown vM_onUp vM_onDown vM_great vM_triedOff vM_triedLeaked vM_triedKept vM_fitting vM_firstSet vM_inAll vM_inAny vM_at vM_sort vM_from vM_value vM_fault u5.2.2.2.1 cM_f u5.2.2.2.2.1 u5.2.2.2.2.2.1 u5.2.2.2.2.2.2.1 u5.2.2.2.2.2.2.2 cM_gets) rfl rfl rfl rfl rfl (by decide +kernel) rfl rfl (Nat.le_of_ble_eq_true rfl) ⟨Nat.zero_le _, Nat.zero_le _⟩ dX8_tries_55 (fun H locs hP hD hS => ?_)
              refine lv_aload_n hx hb dX8_tries_58 rfl (lv_at hl 1 rfl) ?_
              refine lv_dup hx hb dX8_tries_59 rfl ?_
              refine va_get (D := D) (ci := 7) (v := .int vM_triedOff) (C := RX8) (T := TX8) (N := 43) hx hb hts in_X8 hown hK hP 0 rfl rfl 26 (by decide) q3 (fun _ h9 => h9) rfl dX8_tries_60 ?_
              refine lv_aload_n hx hb dX8_tries_63 rfl (lv_at hl 1 rfl) ?_
              refine va_get (D := D) (ci := 7) (v := .int u5.2.2.1) (C := RX8) (T := TX8) (N := 43) hx hb hts in_X8 hown hK hP 0 rfl rfl 14 (by decide) q7 (fun _ h9 => h9) rfl dX8_tries_64 ?_
              refine lv_iadd hx hb dX8_tries_67 ?_
              refine va_put (D := D) (ci := 7) (v := .int (vM_triedOff + u5.2.2.1)) (ty := .int) (C := RX8) (T := TX8) (N := 43) hx hb hts in_X8 tyX8 tyX8_ok nmX8 hown hK hP hD hS 0 rfl rfl 26 (by decide) q3 (fun _ h9 => h9) rfl (by decide +kernel) rfl rfl (Nat.le_of_ble_eq_true rfl) dX8_tries_68 (fun H locs hP hD hS => ?_)
              have hP : va_P D vwCl (w_X8_tries cyI cyJ cyZ cyB cyO aM aM_d aM_f aM_came aM_got aM_held aM_off aM_gets aM_e aM_kept aM_found aM_tape aM_comesUp aM_comesDown aM_path aM_gotNow aM_bitsOf aM_sizeOf aM_number aM_passing vM_isKept vM_taped u5.1 u5.2.1 u5.2.2.1 vM_up vM_down vM_sharesUp vM_sharesDown vM_onUp vM_onDown vM_great (vM_triedOff + u5.2.2.1) vM_triedLeaked vM_triedKept vM_fitting vM_firstSet vM_inAll vM_inAny vM_at vM_sort vM_from vM_value vM_fault u5.2.2.2.1 cM_f u5.2.2.2.2.1 u5.2.2.2.2.2.1 u5.2.2.2.2.2.2.1 u5.2.2.2.2.2.2.2 cM_gets) H := hP
              have hD : va_D A (w_X8_tries cyI cyJ cyZ cyB cyO aM aM_d aM_f aM_came aM_got aM_held aM_off aM_gets aM_e aM_kept aM_found aM_tape aM_comesUp aM_comesDown aM_path aM_gotNow aM_bitsOf aM_sizeOf aM_number aM_passing vM_isKept vM_taped u5.1 u5.2.1 u5.2.2.1 vM_up vM_down vM_sharesUp vM_sharesDown vM_onUp vM_onDown vM_great (vM_triedOff + u5.2.2.1) vM_triedLeaked vM_triedKept vM_fitting vM_firstSet vM_inAll vM_inAny vM_at vM_sort vM_from vM_value vM_fault u5.2.2.2.1 cM_f u5.2.2.2.2.1 u5.2.2.2.2.2.1 u5.2.2.2.2.2.2.1 u5.2.2.2.2.2.2.2 cM_gets) := hD
              refine lv_aload_n hx hb dX8_tries_71 rfl (lv_at hl 1 rfl) ?_
              refine lv_dup hx hb dX8_tries_72 rfl ?_
              refine va_get (D := D) (ci := 7) (v := .int vM_triedLeaked) (C := RX8) (T := TX8) (N := 43) hx hb hts in_X8 hown hK hP 0 rfl rfl 27 (by decide) q4 (fun _ h9 => h9) rfl dX8_tries_73 ?_
              refine lv_aload_n hx hb dX8_tries_76 rfl (lv_at hl 1 rfl) ?_
              refine va_get (D := D) (ci := 7) (v := .int u5.1) (C := RX8) (T := TX8) (N := 43) hx hb hts in_X8 hown hK hP 0 rfl rfl 12 (by decide) q8 (fun _ h9 => h9) rfl dX8_tries_77 ?_
              refine lv_iadd hx hb dX8_tries_80 ?_
              refine va_put (D := D) (ci := 7) (v := .int (vM_triedLeaked + u5.1)) (ty := .int) (C := RX8) (T := TX8) (N := 43) hx hb hts in_X8 tyX8 tyX8_ok nmX8 hown hK hP hD hS 0 rfl rfl 27 (by decide) q4 (fun _ h9 => h9) rfl (by decide +kernel) rfl rfl (Nat.le_of_ble_eq_true rfl) dX8_tries_81 (fun H locs hP hD hS => ?_)
              have hP : va_P D vwCl (w_X8_tries cyI cyJ cyZ cyB cyO aM aM_d aM_f aM_came aM_got aM_held aM_off aM_gets aM_e aM_kept aM_found aM_tape aM_comesUp aM_comesDown aM_path aM_gotNow aM_bitsOf aM_sizeOf aM_number aM_passing vM_isKept vM_taped u5.1 u5.2.1 u5.2.2.1 vM_up vM_down vM_sharesUp vM_sharesDown vM_onUp vM_onDown vM_great (vM_triedOff + u5.2.2.1) (vM_triedLeaked + u5.1) vM_triedKept vM_fitting vM_firstSet vM_inAll vM_inAny vM_at vM_sort vM_from vM_value vM_fault u5.2.2.2.1 cM_f u5.2.2.2.2.1 u5.2.2.2.2.2.1 u5.2.2.2.2.2.2.1 u5.2.2.2.2.2.2.2 cM_gets) H := hP
              have hD : va_D A (w_X8_tries cyI cyJ cyZ cyB cyO aM aM_d aM_f aM_came aM_got aM_held aM_off aM_gets aM_e aM_kept aM_found aM_tape aM_comesUp aM_comesDown aM_path aM_gotNow aM_bitsOf aM_sizeOf aM_number aM_passing vM_isKept vM_taped u5.1 u5.2.1 u5.2.2.1 vM_up vM_down vM_sharesUp vM_sharesDown vM_onUp vM_onDown vM_great (vM_triedOff + u5.2.2.1) (vM_triedLeaked + u5.1) vM_triedKept vM_fitting vM_firstSet vM_inAll vM_inAny vM_at vM_sort vM_from vM_value vM_fault u5.2.2.2.1 cM_f u5.2.2.2.2.1 u5.2.2.2.2.2.1 u5.2.2.2.2.2.2.1 u5.2.2.2.2.2.2.2 cM_gets) := hD
              refine lv_aload_n hx hb dX8_tries_84 rfl (lv_at hl 1 rfl) ?_
              refine lv_dup hx hb dX8_tries_85 rfl ?_
              refine va_get (D := D) (ci := 7) (v := .int vM_triedKept) (C := RX8) (T := TX8) (N := 43) hx hb hts in_X8 hown hK hP 0 rfl rfl 28 (by decide) q5 (fun _ h9 => h9) rfl dX8_tries_86 ?_
              refine lv_aload_n hx hb dX8_tries_89 rfl (lv_at hl 1 rfl) ?_
              refine va_get (D := D) (ci := 7) (v := .int u5.2.1) (C := RX8) (T := TX8) (N := 43) hx hb hts in_X8 hown hK hP 0 rfl rfl 13 (by decide) q9 (fun _ h9 => h9) rfl dX8_tries_90 ?_
              refine lv_iadd hx hb dX8_tries_93 ?_
              refine va_put (D := D) (ci := 7) (v := .int (vM_triedKept + u5.2.1)) (ty := .int) (C := RX8) (T := TX8) (N := 43) hx hb hts in_X8 tyX8 tyX8_ok nmX8 hown hK hP hD hS 0 rfl rfl 28 (by decide) q5 (fun _ h9 => h9) rfl (by decide +kernel) rfl rfl (Nat.le_of_ble_eq_true rfl) dX8_tries_94 (fun H locs hP hD hS => ?_)
              have hP : va_P D vwCl (w_X8_tries cyI cyJ cyZ cyB cyO aM aM_d aM_f aM_came aM_got aM_held aM_off aM_gets aM_e aM_kept aM_found aM_tape aM_comesUp aM_comesDown aM_path aM_gotNow aM_bitsOf aM_sizeOf aM_number aM_passing vM_isKept vM_taped u5.1 u5.2.1 u5.2.2.1 vM_up vM_down vM_sharesUp vM_sharesDown vM_onUp vM_onDown vM_great (vM_triedOff + u5.2.2.1) (vM_triedLeaked + u5.1) (vM_triedKept + u5.2.1) vM_fitting vM_firstSet vM_inAll vM_inAny vM_at vM_sort vM_from vM_value vM_fault u5.2.2.2.1 cM_f u5.2.2.2.2.1 u5.2.2.2.2.2.1 u5.2.2.2.2.2.2.1 u5.2.2.2.2.2.2.2 cM_gets) H := hP
              have hD : va_D A (w_X8_tries cyI cyJ cyZ cyB cyO aM aM_d aM_f aM_came aM_got aM_held aM_off aM_gets aM_e aM_kept aM_found aM_tape aM_comesUp aM_comesDown aM_path aM_gotNow aM_bitsOf aM_sizeOf aM_number aM_passing vM_isKept vM_taped u5.1 u5.2.1 u5.2.2.1 vM_up vM_down vM_sharesUp vM_sharesDown vM_onUp vM_onDown vM_great (vM_triedOff + u5.2.2.1) (vM_triedLeaked + u5.1) (vM_triedKept + u5.2.1) vM_fitting vM_firstSet vM_inAll vM_inAny vM_at vM_sort vM_from vM_value vM_fault u5.2.2.2.1 cM_f u5.2.2.2.2.1 u5.2.2.2.2.2.1 u5.2.2.2.2.2.2.1 u5.2.2.2.2.2.2.2 cM_gets) := hD
              refine lv_iconst (v := 0) hx hb dX8_tries_97 (by decide) ?_
              refine lv_istore_n (lv' := [(3, .int (0 : Int32)), (2, .int y2), (0, .ref aM), (1, .int x1)]) hx hb dX8_tries_98 rfl hl (by decide) rfl (fun ls hl => ?_)
              have lp99 : ∀ (k99 : Nat) (y2 : Int32) (y3 : Int32) (vM_leaked : Int32) (vM_keptAll : Int32) (vM_offAll : Int32) (vM_triedOff : Int32) (vM_triedLeaked : Int32) (vM_triedKept : Int32) (cM_d : Nat → Int32) (cM_f : Nat → Int32) (cM_came : Nat → Int32) (cM_got : Nat → Int32) (cM_held : Nat → Int32) (cM_off : Nat → Int32) (cM_gets : Nat → Int32) (H : Heap) (locs : List Loc) (ls : Array Slot), va_P D vwCl (w_X8_tries cyI cyJ cyZ cyB cyO aM aM_d aM_f aM_came aM_got aM_held aM_off aM_gets aM_e aM_kept aM_found aM_tape aM_comesUp aM_comesDown aM_path aM_gotNow aM_bitsOf aM_sizeOf aM_number aM_passing vM_isKept vM_taped vM_leaked vM_keptAll vM_offAll vM_up vM_down vM_sharesUp vM_sharesDown vM_onUp vM_onDown vM_great vM_triedOff vM_triedLeaked vM_triedKept vM_fitting vM_firstSet vM_inAll vM_inAny vM_at vM_sort vM_from vM_value vM_fault cM_d cM_f cM_came cM_got cM_held cM_off cM_gets) H → va_D A (w_X8_tries cyI cyJ cyZ cyB cyO aM aM_d aM_f aM_came aM_got aM_held aM_off aM_gets aM_e aM_kept aM_found aM_tape aM_comesUp aM_comesDown aM_path aM_gotNow aM_bitsOf aM_sizeOf aM_number aM_passing vM_isKept vM_taped vM_leaked vM_keptAll vM_offAll vM_up vM_down vM_sharesUp vM_sharesDown vM_onUp vM_onDown vM_great vM_triedOff vM_triedLeaked vM_triedKept vM_fitting vM_firstSet vM_inAll vM_inAny vM_at vM_sort vM_from vM_value vM_fault cM_d cM_f cM_came cM_got cM_held cM_off cM_gets) → va_S A s.heap H locs → lv_has ls 4 [(2, .int y2), (3, .int y3), (0, .ref aM), (1, .int x1)] → (f_X8_tries_L99 x1 (f_X8_tries_L49 x1 k49) k99) (y2, y3, vM_leaked, vM_keptAll, vM_offAll, vM_triedOff, vM_triedLeaked, vM_triedKept, cM_d, cM_f, cM_came, cM_got, cM_held, cM_off, cM_gets) = some out → W p l e ({ frames := 4, cells := 0, slots := 0, locals := 95 } : Room) s m args below meth c H locs 0 0 Q (F0 m 99 ls []) := by
                intro k99
                induction k99 with
                | zero => intro y2 y3 vM_leaked vM_keptAll vM_offAll vM_triedOff vM_triedLeaked vM_triedKept cM_d cM_f cM_came cM_got cM_held cM_off cM_gets H locs ls hP hD hS hl h; cases h
                | succ k99 ih99 =>
                  intro y2 y3 vM_leaked vM_keptAll vM_offAll vM_triedOff vM_triedLeaked vM_triedKept cM_d cM_f cM_came cM_got cM_held cM_off cM_gets H locs ls hP hD hS hl h
                  have h : f_X8_tries_L99_b x1 (f_X8_tries_L49 x1 k49) (f_X8_tries_L99 x1 (f_X8_tries_L49 x1 k49) k99) y2 y3 vM_leaked vM_keptAll vM_offAll vM_triedOff vM_triedLeaked vM_triedKept cM_d cM_f cM_came cM_got cM_held cM_off cM_gets = some out := h
                  unfold f_X8_tries_L99_b at h
                  refine lv_iload_n hx hb dX8_tries_99 rfl (lv_at hl 1 rfl) ?_
                  refine lv_aload_n hx hb dX8_tries_100 rfl (lv_at hl 2 rfl) ?_
                  refine va_get (D := D) (ci := 7) (v := .ref aM_d) (C := RX8) (T := TX8) (N := 43) hx hb hts in_X8 hown hK hP 0 rfl rfl 0 (by decide) q1 (fun _ h9 => h9) rfl dX8_tries_101 ?_
                  refine lv_iconst (v := 0) hx hb dX8_tries_104 (by decide) ?_
                  refine va_iald hx hb hK hP 1 0 rfl rfl (by unfold vp_in; decide) dX8_tries_105 ?_
                  refine lv_icmp_ge (tgt := 130) hx hb dX8_tries_106 (by decide) (fun c6 => ?_) (fun c6 => ?_)
                  · have h := br_pos c6 h
                    refine lv_iinc (v := y2 + 1) (lv' := [(2, .int (y2 + 1)), (3, .int y3), (0, .ref aM), (1, .int x1)]) hx hb dX8_tries_130 hl (k := 0) rfl rfl (by decide) rfl (fun ls hl => ?_)
                    refine lv_goto (tgt := 49) hx hb dX8_tries_133 (by decide) ?_
                    exact ih49 (y2 + 1) vM_leaked vM_keptAll vM_offAll vM_triedOff vM_triedLeaked vM_triedKept cM_d cM_f cM_came cM_got cM_held cM_off cM_gets _ _ _ hP hD hS (lv_sub hl [0, 2, 3] rfl) h
                  · have h := br_neg c6 h
                    refine lv_aload_n hx hb dX8_tries_109 rfl (lv_at hl 2 rfl) ?_
                    refine va_get (D := D) (ci := 7) (v := .ref aM_gets) (C := RX8) (T := TX8) (N := 43) hx hb hts in_X8 hown hK hP 0 rfl rfl 25 (by decide) q6 (fun _ h9 => h9) rfl dX8_tries_110 ?_
                    refine lv_iload_n hx hb dX8_tries_113 rfl (lv_at hl 1 rfl) ?_
                    refine lv_dup2_11 hx hb dX8_tries_114 rfl rfl ?_
                    obtain ⟨g7, h⟩ := gd_some h
                    refine va_iald hx hb hK hP 7 0 rfl rfl g7 dX8_tries_115 ?_
                    refine lv_aload_n hx hb dX8_tries_116 rfl (lv_at hl 2 rfl) ?_
                    refine va_get (D := D) (ci := 7) (v := .ref aM_got) (C := RX8) (T := TX8) (N := 43) hx hb hts in_X8 hown hK hP 0 rfl rfl 9 (by decide) q10 (fun _ h9 => h9) rfl dX8_tries_117 ?_
                    refine lv_iload_n hx hb dX8_tries_120 rfl (lv_at hl 1 rfl) ?_
                    obtain ⟨g8, h⟩ := gd_some h
                    refine va_iald hx hb hK hP 4 0 rfl rfl g8 dX8_tries_121 ?_
                    refine lv_iadd hx hb dX8_tries_122 ?_
                    obtain ⟨g9, h⟩ := gd_some h
                    refine va_iast hx hb hK hP hD hS 7 0 rfl rfl g9 dX8_tries_123 (fun H locs hP hD hS => ?_)
                    have hP : va_P D vwCl (w_X8_tries cyI cyJ cyZ cyB cyO aM aM_d aM_f aM_came aM_got aM_held aM_off aM_gets aM_e aM_kept aM_found aM_tape aM_comesUp aM_comesDown aM_path aM_gotNow aM_bitsOf aM_sizeOf aM_number aM_passing vM_isKept vM_taped vM_leaked vM_keptAll vM_offAll vM_up vM_down vM_sharesUp vM_sharesDown vM_onUp vM_onDown vM_great vM_triedOff vM_triedLeaked vM_triedKept vM_fitting vM_firstSet vM_inAll vM_inAny vM_at vM_sort vM_from vM_value vM_fault cM_d cM_f cM_came cM_got cM_held cM_off (upd cM_gets y3.toNatClampNeg ((cM_gets y3.toNatClampNeg) + (cM_got y3.toNatClampNeg)))) H := hP
                    have hD : va_D A (w_X8_tries cyI cyJ cyZ cyB cyO aM aM_d aM_f aM_came aM_got aM_held aM_off aM_gets aM_e aM_kept aM_found aM_tape aM_comesUp aM_comesDown aM_path aM_gotNow aM_bitsOf aM_sizeOf aM_number aM_passing vM_isKept vM_taped vM_leaked vM_keptAll vM_offAll vM_up vM_down vM_sharesUp vM_sharesDown vM_onUp vM_onDown vM_great vM_triedOff vM_triedLeaked vM_triedKept vM_fitting vM_firstSet vM_inAll vM_inAny vM_at vM_sort vM_from vM_value vM_fault cM_d cM_f cM_came cM_got cM_held cM_off (upd cM_gets y3.toNatClampNeg ((cM_gets y3.toNatClampNeg) + (cM_got y3.toNatClampNeg)))) := hD
                    refine lv_iinc (v := y3 + 1) (lv' := [(3, .int (y3 + 1)), (2, .int y2), (0, .ref aM), (1, .int x1)]) hx hb dX8_tries_124 hl (k := 1) rfl rfl (by decide) rfl (fun ls hl => ?_)
                    refine lv_goto (tgt := 99) hx hb dX8_tries_127 (by decide) ?_
                    exact ih99 y2 (y3 + 1) vM_leaked vM_keptAll vM_offAll vM_triedOff vM_triedLeaked vM_triedKept cM_d cM_f cM_came cM_got cM_held cM_off (upd cM_gets y3.toNatClampNeg ((cM_gets y3.toNatClampNeg) + (cM_got y3.toNatClampNeg))) _ _ _ hP hD hS (lv_sub hl [1, 0, 2, 3] rfl) h
              exact lp99 FU y2 (0 : Int32) u5.1 u5.2.1 u5.2.2.1 (vM_triedOff + u5.2.2.1) (vM_triedLeaked + u5.1) (vM_triedKept + u5.2.1) u5.2.2.2.1 cM_f u5.2.2.2.2.1 u5.2.2.2.2.2.1 u5.2.2.2.2.2.2.1 u5.2.2.2.2.2.2.2 cM_gets _ _ _ hP hD hS (lv_sub hl [1, 0, 2, 3] rfl) h
        exact lp49 FU (0 : Int32) vM_leaked vM_keptAll vM_offAll vM_triedOff vM_triedLeaked vM_triedKept cM_d cM_f cM_came cM_got cM_held cM_off cM_gets _ _ _ hP hD hS (lv_sub hl [0, 1, 2] rfl) h
      · have h := br_neg c2 h
        refine lv_aload_n hx hb dX8_tries_34 rfl (lv_at hl 1 rfl) ?_
        refine va_get (D := D) (ci := 7) (v := .ref aM_gets) (C := RX8) (T := TX8) (N := 43) hx hb hts in_X8 hown hK hP 0 rfl rfl 25 (by decide) q6 (fun _ h9 => h9) rfl dX8_tries_35 ?_
        refine lv_iload_n hx hb dX8_tries_38 rfl (lv_at hl 0 rfl) ?_
        refine lv_iconst (v := 0) hx hb dX8_tries_39 (by decide) ?_
        obtain ⟨g10, h⟩ := gd_some h
        refine va_iast hx hb hK hP hD hS 7 0 rfl rfl g10 dX8_tries_40 (fun H locs hP hD hS => ?_)
        have hP : va_P D vwCl (w_X8_tries cyI cyJ cyZ cyB cyO aM aM_d aM_f aM_came aM_got aM_held aM_off aM_gets aM_e aM_kept aM_found aM_tape aM_comesUp aM_comesDown aM_path aM_gotNow aM_bitsOf aM_sizeOf aM_number aM_passing vM_isKept vM_taped vM_leaked vM_keptAll vM_offAll vM_up vM_down vM_sharesUp vM_sharesDown vM_onUp vM_onDown vM_great vM_triedOff vM_triedLeaked vM_triedKept vM_fitting vM_firstSet vM_inAll vM_inAny vM_at vM_sort vM_from vM_value vM_fault cM_d cM_f cM_came cM_got cM_held cM_off (upd cM_gets y2.toNatClampNeg (0 : Int32))) H := hP
        have hD : va_D A (w_X8_tries cyI cyJ cyZ cyB cyO aM aM_d aM_f aM_came aM_got aM_held aM_off aM_gets aM_e aM_kept aM_found aM_tape aM_comesUp aM_comesDown aM_path aM_gotNow aM_bitsOf aM_sizeOf aM_number aM_passing vM_isKept vM_taped vM_leaked vM_keptAll vM_offAll vM_up vM_down vM_sharesUp vM_sharesDown vM_onUp vM_onDown vM_great vM_triedOff vM_triedLeaked vM_triedKept vM_fitting vM_firstSet vM_inAll vM_inAny vM_at vM_sort vM_from vM_value vM_fault cM_d cM_f cM_came cM_got cM_held cM_off (upd cM_gets y2.toNatClampNeg (0 : Int32))) := hD
        refine lv_iinc (v := y2 + 1) (lv' := [(2, .int (y2 + 1)), (0, .ref aM), (1, .int x1)]) hx hb dX8_tries_41 hl (k := 0) rfl rfl (by decide) rfl (fun ls hl => ?_)
        refine lv_goto (tgt := 28) hx hb dX8_tries_44 (by decide) ?_
        exact ih28 (y2 + 1) vM_leaked vM_keptAll vM_offAll vM_triedOff vM_triedLeaked vM_triedKept cM_d cM_f cM_came cM_got cM_held cM_off (upd cM_gets y2.toNatClampNeg (0 : Int32)) _ _ _ hP hD hS (lv_sub hl [0, 1, 2] rfl) h
  exact lp28 FU (0 : Int32) vM_leaked vM_keptAll vM_offAll (0 : Int32) (0 : Int32) (0 : Int32) cM_d u1 cM_came cM_got cM_held cM_off cM_gets _ _ _ hP hD hS (lv_sub hl [0, 1, 2] rfl) h
/-! ===== X8_ahead ===== -/
def w_X8_ahead (cyI cyJ cyZ cyB cyO : ClassId) (aM aM_found aM_d aM_f aM_came aM_got aM_held aM_off aM_gets aM_e aM_kept aM_tape aM_comesUp aM_comesDown aM_path aM_gotNow aM_bitsOf aM_sizeOf aM_number aM_passing : Nat) (vM_isKept : Int32) (vM_taped : Int32) (vM_leaked : Int32) (vM_keptAll : Int32) (vM_offAll : Int32) (vM_up : Int64) (vM_down : Int64) (vM_sharesUp : Int64) (vM_sharesDown : Int64) (vM_onUp : Int64) (vM_onDown : Int64) (vM_great : Int32) (vM_triedOff : Int32) (vM_triedLeaked : Int32) (vM_triedKept : Int32) (vM_fitting : Int32) (vM_firstSet : Int32) (vM_inAll : Int32) (vM_inAny : Int32) (vM_at : Int32) (vM_sort : Int32) (vM_from : Int32) (vM_value : Int64) (vM_fault : Int32) (cM_found : Nat → Int32) (cM_d : Nat → Int32) (cM_f : Nat → Int32) (cM_came : Nat → Int32) (cM_got : Nat → Int32) (cM_held : Nat → Int32) (cM_off : Nat → Int32) (cM_gets : Nat → Int32) : va_W := [(aM, .inr (7, [.ref aM_d, .ref aM_e, .ref aM_f, .ref aM_kept, .int vM_isKept, .ref aM_found, .ref aM_tape, .int vM_taped, .ref aM_came, .ref aM_got, .ref aM_held, .ref aM_off, .int vM_leaked, .int vM_keptAll, .int vM_offAll, .ref aM_comesUp, .ref aM_comesDown, .long vM_up, .long vM_down, .long vM_sharesUp, .long vM_sharesDown, .long vM_onUp, .long vM_onDown, .int vM_great, .ref aM_path, .ref aM_gets, .int vM_triedOff, .int vM_triedLeaked, .int vM_triedKept, .ref aM_gotNow, .int vM_fitting, .int vM_firstSet, .int vM_inAll, .int vM_inAny, .int vM_at, .int vM_sort, .int vM_from, .long vM_value, .int vM_fault, .ref aM_bitsOf, .ref aM_sizeOf, .ref aM_number, .ref aM_passing])), (aM_found, .inl (cyI, 7, .inl cM_found)), (aM_d, .inl (cyI, 64, .inl cM_d)), (aM_f, .inl (cyI, 64, .inl cM_f)), (aM_came, .inl (cyI, 10, .inl cM_came)), (aM_got, .inl (cyI, 10, .inl cM_got)), (aM_held, .inl (cyI, 10, .inl cM_held)), (aM_off, .inl (cyI, 10, .inl cM_off)), (aM_gets, .inl (cyI, 10, .inl cM_gets))]
set_option maxHeartbeats 4000000 in
set_option maxRecDepth 100000 in
theorem t_X8_ahead (l : Launch) (D : va_G) (cyI cyJ cyZ cyB cyO : ClassId) (aM aM_found aM_d aM_f aM_came aM_got aM_held aM_off aM_gets aM_e aM_kept aM_tape aM_comesUp aM_comesDown aM_path aM_gotNow aM_bitsOf aM_sizeOf aM_number aM_passing : Nat) (vM_isKept : Int32) (vM_taped : Int32) (vM_leaked : Int32) (vM_keptAll : Int32) (vM_offAll : Int32) (vM_up : Int64) (vM_down : Int64) (vM_sharesUp : Int64) (vM_sharesDown : Int64) (vM_onUp : Int64) (vM_onDown : Int64) (vM_great : Int32) (vM_triedOff : Int32) (vM_triedLeaked : Int32) (vM_triedKept : Int32) (vM_fitting : Int32) (vM_firstSet : Int32) (vM_inAll : Int32) (vM_inAny : Int32) (vM_at : Int32) (vM_sort : Int32) (vM_from : Int32) (vM_value : Int64) (vM_fault : Int32) (cM_found : Nat → Int32) (cM_d : Nat → Int32) (cM_f : Nat → Int32) (cM_came : Nat → Int32) (cM_got : Nat → Int32) (cM_held : Nat → Int32) (cM_off : Nat → Int32) (cM_gets : Nat → Int32) (x1 : Int32) (x2 : Int32) (out : Int32 × Int32 × Int32 × Int32 × Int32 × Int32 × Int32 × (Nat → Int32) × (Nat → Int32) × (Nat → Int32) × (Nat → Int32) × (Nat → Int32) × (Nat → Int32) × (Nat → Int32) × (Nat → Int32)) (h : f_X8_ahead x1 x2 vM_leaked vM_keptAll vM_offAll vM_triedOff vM_triedLeaked vM_triedKept cM_found cM_d cM_f cM_came cM_got cM_held cM_off cM_gets = some out) : Mi l yX8_ahead wsX8_ahead ({ frames := 5, cells := 0, slots := 0, locals := 118 } : Room) D (tyA cyI cyJ cyZ cyB cyO) [.ref aM, .int x1, .int x2] (w_X8_ahead cyI cyJ cyZ cyB cyO aM aM_found aM_d aM_f aM_came aM_got aM_held aM_off aM_gets aM_e aM_kept aM_tape aM_comesUp aM_comesDown aM_path aM_gotNow aM_bitsOf aM_sizeOf aM_number aM_passing vM_isKept vM_taped vM_leaked vM_keptAll vM_offAll vM_up vM_down vM_sharesUp vM_sharesDown vM_onUp vM_onDown vM_great vM_triedOff vM_triedLeaked vM_triedKept vM_fitting vM_firstSet vM_inAll vM_inAny vM_at vM_sort vM_from vM_value vM_fault cM_found cM_d cM_f cM_came cM_got cM_held cM_off cM_gets) (w_X8_ahead cyI cyJ cyZ cyB cyO aM aM_found aM_d aM_f aM_came aM_got aM_held aM_off aM_gets aM_e aM_kept aM_tape aM_comesUp aM_comesDown aM_path aM_gotNow aM_bitsOf aM_sizeOf aM_number aM_passing vM_isKept vM_taped out.2.1 out.2.2.1 out.2.2.2.1 vM_up vM_down vM_sharesUp vM_sharesDown vM_onUp vM_onDown vM_great out.2.2.2.2.1 out.2.2.2.2.2.1 out.2.2.2.2.2.2.1 vM_fitting vM_firstSet vM_inAll vM_inAny vM_at vM_sort vM_from vM_value vM_fault out.2.2.2.2.2.2.2.1 out.2.2.2.2.2.2.2.2.1 out.2.2.2.2.2.2.2.2.2.1 out.2.2.2.2.2.2.2.2.2.2.1 out.2.2.2.2.2.2.2.2.2.2.2.1 out.2.2.2.2.2.2.2.2.2.2.2.2.1 out.2.2.2.2.2.2.2.2.2.2.2.2.2.1 out.2.2.2.2.2.2.2.2.2.2.2.2.2.2) out.1 := by
  refine Mi.mk (cc := cX8_ahead) (maxL := 3) (rt := .int) (own := RX8) (by decide) rfl rfl (Nat.le_of_ble_eq_true rfl) ?_
  intro p e s m args below meth c A Q F hK hP hD hA hret ls hl
  obtain ⟨hx, hb, hml, hown, hts⟩ := id F
  have hS : va_S A s.heap s.heap [] := va_S.rf
  have hl : lv_has ls 3 [(0, .ref aM), (1, .int x1), (2, .int x2)] := hl
  have in_X8 : ∀ w ∈ wsX80, w ∈ wsX8_ahead := by decide +kernel
  have q1 := hts (Cond.constantLong RX8 204 (100)) (List.mem_of_getElem? (i := 1) rfl)
  have q7 := hts (Cond.methodLink RX8 70 yX8_in) (List.mem_of_getElem? (i := 7) rfl)
  have q11 := hts (Cond.methodLink RX8 115 yX8_finds) (List.mem_of_getElem? (i := 11) rfl)
  have q2 := hts (Cond.fieldLink RX8 7 "ThirdFountainModel" "d" "[I") (List.mem_of_getElem? (i := 2) rfl)
  have q17 := hts (Cond.methodLink RX8 206 yX8_isLate) (List.mem_of_getElem? (i := 17) rfl)
  have q21 := hts (Cond.methodLink RX8 224 yX8_tries) (List.mem_of_getElem? (i := 21) rfl)
  have q6 := hts (Cond.fieldLink RX8 51 "ThirdFountainModel" "gets" "[I") (List.mem_of_getElem? (i := 6) rfl)
  have q5 := hts (Cond.fieldLink RX8 218 "ThirdFountainModel" "triedLeaked" "I") (List.mem_of_getElem? (i := 5) rfl)
  have q4 := hts (Cond.fieldLink RX8 215 "ThirdFountainModel" "triedOff" "I") (List.mem_of_getElem? (i := 4) rfl)
  have q3 := hts (Cond.fieldLink RX8 221 "ThirdFountainModel" "triedKept" "I") (List.mem_of_getElem? (i := 3) rfl)
  unfold f_X8_ahead at h
  refine lv_iload_n hx hb dX8_ahead_0 rfl (lv_at hl 1 rfl) ?_
  refine lv_i2l hx hb dX8_ahead_1 rfl ?_
  refine lv_lconst (v := 0) hx hb dX8_ahead_2 (by decide) ?_
  refine lv_ldc2 (v := 100) hx hb hown q1 dX8_ahead_3 ?_
  obtain ⟨u1, hu1, h⟩ := bd_some h
  refine cl_Si (rest := []) F hK hP hD hS hA hl (t_X8_in l D cyI cyJ cyZ cyB cyO x1.toInt64 (0 : Int64) (100 : Int64) u1 hu1) (va_cwS 3 hts gX8_ahead_X8_in rfl rfl rfl (by decide +kernel) ⟨Nat.le_of_ble_eq_true rfl, Nat.le_of_ble_eq_true rfl⟩) [] [0, 0, 0, 0, 0, 0, 0, 0, 0] [] (w_X8_ahead cyI cyJ cyZ cyB cyO aM aM_found aM_d aM_f aM_came aM_got aM_held aM_off aM_gets aM_e aM_kept aM_tape aM_comesUp aM_comesDown aM_path aM_gotNow aM_bitsOf aM_sizeOf aM_number aM_passing vM_isKept vM_taped vM_leaked vM_keptAll vM_offAll vM_up vM_down vM_sharesUp vM_sharesDown vM_onUp vM_onDown vM_great vM_triedOff vM_triedLeaked vM_triedKept vM_fitting vM_firstSet vM_inAll vM_inAny vM_at vM_sort vM_from vM_value vM_fault cM_found cM_d cM_f cM_came cM_got cM_held cM_off cM_gets) rfl rfl rfl (by decide +kernel) rfl rfl (Nat.le_of_ble_eq_true rfl) ⟨Nat.zero_le _, Nat.zero_le _⟩ dX8_ahead_6 (fun H locs hP hD hS => ?_)
  refine lv_if_eq (tgt := 30) hx hb dX8_ahead_9 (by decide) (fun c2 => ?_) (fun c2 => ?_)
  · have h := br_pos c2 h
    refine lv_aload_n hx hb dX8_ahead_30 rfl (lv_at hl 0 rfl) ?_
    refine lv_iconst (v := 0) hx hb dX8_ahead_31 (by decide) ?_
    obtain ⟨u3, hu3, h⟩ := bd_some h
    refine cl_Vi (rest := []) F hK hP hD hS hA hl (t_X8_finds l D cyI cyJ cyZ cyB cyO aM aM_found aM_d aM_e aM_f aM_kept aM_tape aM_came aM_got aM_held aM_off aM_comesUp aM_comesDown aM_path aM_gets aM_gotNow aM_bitsOf aM_sizeOf aM_number aM_passing vM_isKept vM_taped vM_leaked vM_keptAll vM_offAll vM_up vM_down vM_sharesUp vM_sharesDown vM_onUp vM_onDown vM_great vM_triedOff vM_triedLeaked vM_triedKept vM_fitting vM_firstSet vM_inAll vM_inAny vM_at vM_sort vM_from vM_value vM_fault cM_found (0 : Int32) u3 hu3) (cwV 1 hts gX8_ahead_X8_finds rfl rfl rfl (by decide +kernel) ⟨Nat.le_of_ble_eq_true rfl, Nat.le_of_ble_eq_true rfl⟩) 0 [0, 1] [1, 2, 0, 0, 0, 0, 0, 0, 0] [] (w_X8_ahead cyI cyJ cyZ cyB cyO aM aM_found aM_d aM_f aM_came aM_got aM_held aM_off aM_gets aM_e aM_kept aM_tape aM_comesUp aM_comesDown aM_path aM_gotNow aM_bitsOf aM_sizeOf aM_number aM_passing vM_isKept vM_taped vM_leaked vM_keptAll vM_offAll vM_up vM_down vM_sharesUp vM_sharesDown vM_onUp vM_onDown vM_great vM_triedOff vM_triedLeaked vM_triedKept vM_fitting vM_firstSet vM_inAll vM_inAny vM_at vM_sort vM_from vM_value vM_fault u3.2 cM_d cM_f cM_came cM_got cM_held cM_off cM_gets) rfl rfl rfl rfl rfl (by decide +kernel) rfl rfl (Nat.le_of_ble_eq_true rfl) ⟨Nat.zero_le _, Nat.zero_le _⟩ dX8_ahead_32 (fun H locs hP hD hS => ?_)
    obtain rfl := Option.some.inj h
    exact hret _ _ _ _ _ hP hD hS dX8_ahead_35 rfl rfl
  · have h := br_neg c2 h
    refine lv_iload_n hx hb dX8_ahead_12 rfl (lv_at hl 2 rfl) ?_
    refine lv_i2l hx hb dX8_ahead_13 rfl ?_
    refine lv_lconst (v := 0) hx hb dX8_ahead_14 (by decide) ?_
    refine lv_iconst (v := 2) hx hb dX8_ahead_15 (by decide) ?_
    refine lv_aload_n hx hb dX8_ahead_16 rfl (lv_at hl 0 rfl) ?_
    refine va_get (D := D) (ci := 7) (v := .ref aM_d) (C := RX8) (T := TX8) (N := 43) hx hb hts in_X8 hown hK hP 0 rfl rfl 0 (by decide) q2 (fun _ h9 => h9) rfl dX8_ahead_17 ?_
    refine lv_iconst (v := 0) hx hb dX8_ahead_20 (by decide) ?_
    refine va_iald hx hb hK hP 2 0 rfl rfl (by unfold vp_in; decide) dX8_ahead_21 ?_
    refine lv_iadd hx hb dX8_ahead_22 ?_
    refine lv_i2l hx hb dX8_ahead_23 rfl ?_
    obtain ⟨u4, hu4, h⟩ := bd_some h
    refine cl_Si (rest := []) F hK hP hD hS hA hl (t_X8_in l D cyI cyJ cyZ cyB cyO x2.toInt64 (0 : Int64) (((2 : Int32) + (cM_d (0 : Int32).toNatClampNeg)).toInt64) u4 hu4) (va_cwS 3 hts gX8_ahead_X8_in rfl rfl rfl (by decide +kernel) ⟨Nat.le_of_ble_eq_true rfl, Nat.le_of_ble_eq_true rfl⟩) [] [0, 0, 0, 0, 0, 0, 0, 0, 0] [] (w_X8_ahead cyI cyJ cyZ cyB cyO aM aM_found aM_d aM_f aM_came aM_got aM_held aM_off aM_gets aM_e aM_kept aM_tape aM_comesUp aM_comesDown aM_path aM_gotNow aM_bitsOf aM_sizeOf aM_number aM_passing vM_isKept vM_taped vM_leaked vM_keptAll vM_offAll vM_up vM_down vM_sharesUp vM_sharesDown vM_onUp vM_onDown vM_great vM_triedOff vM_triedLeaked vM_triedKept vM_fitting vM_firstSet vM_inAll vM_inAny vM_at vM_sort vM_from vM_value vM_fault cM_found cM_d cM_f cM_came cM_got cM_held cM_off cM_gets) rfl rfl rfl (by decide +kernel) rfl rfl (Nat.le_of_ble_eq_true rfl) ⟨Nat.zero_le _, Nat.zero_le _⟩ dX8_ahead_24 (fun H locs hP hD hS => ?_)
    refine lv_if_ne (tgt := 36) hx hb dX8_ahead_27 (by decide) (fun c5 => ?_) (fun c5 => ?_)
    · have h := br_neg c5 h
      refine lv_aload_n hx hb dX8_ahead_36 rfl (lv_at hl 0 rfl) ?_
      refine lv_iload_n hx hb dX8_ahead_37 rfl (lv_at hl 1 rfl) ?_
      obtain ⟨u6, hu6, h⟩ := bd_some h
      refine cl_Vi (rest := []) F hK hP hD hS hA hl (t_X8_isLate l D cyI cyJ cyZ cyB cyO aM aM_d aM_e aM_f aM_kept aM_found aM_tape aM_came aM_got aM_held aM_off aM_comesUp aM_comesDown aM_path aM_gets aM_gotNow aM_bitsOf aM_sizeOf aM_number aM_passing vM_isKept vM_taped vM_leaked vM_keptAll vM_offAll vM_up vM_down vM_sharesUp vM_sharesDown vM_onUp vM_onDown vM_great vM_triedOff vM_triedLeaked vM_triedKept vM_fitting vM_firstSet vM_inAll vM_inAny vM_at vM_sort vM_from vM_value vM_fault cM_d x1 u6 hu6) (cwV 1 hts gX8_ahead_X8_isLate rfl rfl rfl (by decide +kernel) ⟨Nat.le_of_ble_eq_true rfl, Nat.le_of_ble_eq_true rfl⟩) 0 [0, 2] [1, 0, 2, 0, 0, 0, 0, 0, 0] [] (w_X8_ahead cyI cyJ cyZ cyB cyO aM aM_found aM_d aM_f aM_came aM_got aM_held aM_off aM_gets aM_e aM_kept aM_tape aM_comesUp aM_comesDown aM_path aM_gotNow aM_bitsOf aM_sizeOf aM_number aM_passing vM_isKept vM_taped vM_leaked vM_keptAll vM_offAll vM_up vM_down vM_sharesUp vM_sharesDown vM_onUp vM_onDown vM_great vM_triedOff vM_triedLeaked vM_triedKept vM_fitting vM_firstSet vM_inAll vM_inAny vM_at vM_sort vM_from vM_value vM_fault cM_found cM_d cM_f cM_came cM_got cM_held cM_off cM_gets) rfl rfl rfl rfl rfl (by decide +kernel) rfl rfl (Nat.le_of_ble_eq_true rfl) ⟨Nat.zero_le _, Nat.zero_le _⟩ dX8_ahead_38 (fun H locs hP hD hS => ?_)
      refine lv_if_eq (tgt := 50) hx hb dX8_ahead_41 (by decide) (fun c7 => ?_) (fun c7 => ?_)
      · have h := br_pos c7 h
        refine lv_aload_n hx hb dX8_ahead_50 rfl (lv_at hl 0 rfl) ?_
        refine lv_iload_n hx hb dX8_ahead_51 rfl (lv_at hl 1 rfl) ?_
        obtain ⟨u8, hu8, h⟩ := bd_some h
        refine cl_Vv (rest := []) F hK hP hD hS hA hl (t_X8_tries l D cyI cyJ cyZ cyB cyO aM aM_d aM_f aM_came aM_got aM_held aM_off aM_gets aM_e aM_kept aM_found aM_tape aM_comesUp aM_comesDown aM_path aM_gotNow aM_bitsOf aM_sizeOf aM_number aM_passing vM_isKept vM_taped vM_leaked vM_keptAll vM_offAll vM_up vM_down vM_sharesUp vM_sharesDown vM_onUp vM_onDown vM_great vM_triedOff vM_triedLeaked vM_triedKept vM_fitting vM_firstSet vM_inAll vM_inAny vM_at vM_sort vM_from vM_value vM_fault cM_d cM_f cM_came cM_got cM_held cM_off cM_gets x1 u8 hu8) (cwV 1 hts gX8_ahead_X8_tries rfl rfl rfl (by decide +kernel) ⟨Nat.le_of_ble_eq_true rfl, Nat.le_of_ble_eq_true rfl⟩) 0 [0, 2, 3, 4, 5, 6, 7, 8] [1, 0, 2, 3, 4, 5, 6, 7, 8] [] (w_X8_ahead cyI cyJ cyZ cyB cyO aM aM_found aM_d aM_f aM_came aM_got aM_held aM_off aM_gets aM_e aM_kept aM_tape aM_comesUp aM_comesDown aM_path aM_gotNow aM_bitsOf aM_sizeOf aM_number aM_passing vM_isKept vM_taped u8.1 u8.2.1 u8.2.2.1 vM_up vM_down vM_sharesUp vM_sharesDown vM_onUp vM_onDown vM_great u8.2.2.2.1 u8.2.2.2.2.1 u8.2.2.2.2.2.1 vM_fitting vM_firstSet vM_inAll vM_inAny vM_at vM_sort vM_from vM_value vM_fault cM_found u8.2.2.2.2.2.2.1 u8.2.2.2.2.2.2.2.1 u8.2.2.2.2.2.2.2.2.1 u8.2.2.2.2.2.2.2.2.2.1 u8.2.2.2.2.2.2.2.2.2.2.1 u8.2.2.2.2.2.2.2.2.2.2.2.1 u8.2.2.2.2.2.2.2.2.2.2.2.2) rfl rfl rfl rfl rfl (by decide +kernel) rfl rfl (Nat.le_of_ble_eq_true rfl) ⟨Nat.zero_le _, Nat.zero_le _⟩ dX8_ahead_52 (fun H locs hP hD hS => ?_)
        refine lv_iload_n hx hb dX8_ahead_55 rfl (lv_at hl 2 rfl) ?_
        refine lv_if_ne (tgt := 66) hx hb dX8_ahead_56 (by decide) (fun c9 => ?_) (fun c9 => ?_)
        · have h := br_neg c9 h
          refine lv_iload_n hx hb dX8_ahead_66 rfl (lv_at hl 2 rfl) ?_
          refine lv_iconst (v := 1) hx hb dX8_ahead_67 (by decide) ?_
          refine lv_icmp_ne (tgt := 78) hx hb dX8_ahead_68 (by decide) (fun c10 => ?_) (fun c10 => ?_)
          · have h := br_neg c10 h
            refine lv_iload_n hx hb dX8_ahead_78 rfl (lv_at hl 2 rfl) ?_
            refine lv_iconst (v := 2) hx hb dX8_ahead_79 (by decide) ?_
            refine lv_icmp_ne (tgt := 90) hx hb dX8_ahead_80 (by decide) (fun c11 => ?_) (fun c11 => ?_)
            · have h := br_neg c11 h
              refine lv_aload_n hx hb dX8_ahead_90 rfl (lv_at hl 0 rfl) ?_
              refine va_get (D := D) (ci := 7) (v := .ref aM_gets) (C := RX8) (T := TX8) (N := 43) hx hb hts in_X8 hown hK hP 0 rfl rfl 25 (by decide) q6 (fun _ h9 => h9) rfl dX8_ahead_91 ?_
              refine lv_iload_n hx hb dX8_ahead_94 rfl (lv_at hl 2 rfl) ?_
              refine lv_iconst (v := 3) hx hb dX8_ahead_95 (by decide) ?_
              refine lv_isub hx hb dX8_ahead_96 ?_
              obtain ⟨g12, h⟩ := gd_some h
              refine va_iald hx hb hK hP 8 0 rfl rfl g12 dX8_ahead_97 ?_
              obtain rfl := Option.some.inj h
              exact hret _ _ _ _ _ hP hD hS dX8_ahead_98 rfl rfl
            · have h := br_pos c11 h
              refine lv_aload_n hx hb dX8_ahead_83 rfl (lv_at hl 0 rfl) ?_
              refine va_get (D := D) (ci := 7) (v := .int u8.2.2.2.2.1) (C := RX8) (T := TX8) (N := 43) hx hb hts in_X8 hown hK hP 0 rfl rfl 27 (by decide) q5 (fun _ h9 => h9) rfl dX8_ahead_84 ?_
              refine lv_goto (tgt := 98) hx hb dX8_ahead_87 (by decide) ?_
              obtain rfl := Option.some.inj h
              exact hret _ _ _ _ _ hP hD hS dX8_ahead_98 rfl rfl
          · have h := br_pos c10 h
            refine lv_aload_n hx hb dX8_ahead_71 rfl (lv_at hl 0 rfl) ?_
            refine va_get (D := D) (ci := 7) (v := .int u8.2.2.2.1) (C := RX8) (T := TX8) (N := 43) hx hb hts in_X8 hown hK hP 0 rfl rfl 26 (by decide) q4 (fun _ h9 => h9) rfl dX8_ahead_72 ?_
            refine lv_goto (tgt := 98) hx hb dX8_ahead_75 (by decide) ?_
            obtain rfl := Option.some.inj h
            exact hret _ _ _ _ _ hP hD hS dX8_ahead_98 rfl rfl
        · have h := br_pos c9 h
          refine lv_aload_n hx hb dX8_ahead_59 rfl (lv_at hl 0 rfl) ?_
          refine va_get (D := D) (ci := 7) (v := .int u8.2.2.2.2.2.1) (C := RX8) (T := TX8) (N := 43) hx hb hts in_X8 hown hK hP 0 rfl rfl 28 (by decide) q3 (fun _ h9 => h9) rfl dX8_ahead_60 ?_
          refine lv_goto (tgt := 98) hx hb dX8_ahead_63 (by decide) ?_
          obtain rfl := Option.some.inj h
          exact hret _ _ _ _ _ hP hD hS dX8_ahead_98 rfl rfl
      · have h := br_neg c7 h
        refine lv_aload_n hx hb dX8_ahead_44 rfl (lv_at hl 0 rfl) ?_
        refine lv_iconst (v := 4) hx hb dX8_ahead_45 (by decide) ?_
        obtain ⟨u13, hu13, h⟩ := bd_some h
        refine cl_Vi (rest := []) F hK hP hD hS hA hl (t_X8_finds l D cyI cyJ cyZ cyB cyO aM aM_found aM_d aM_e aM_f aM_kept aM_tape aM_came aM_got aM_held aM_off aM_comesUp aM_comesDown aM_path aM_gets aM_gotNow aM_bitsOf aM_sizeOf aM_number aM_passing vM_isKept vM_taped vM_leaked vM_keptAll vM_offAll vM_up vM_down vM_sharesUp vM_sharesDown vM_onUp vM_onDown vM_great vM_triedOff vM_triedLeaked vM_triedKept vM_fitting vM_firstSet vM_inAll vM_inAny vM_at vM_sort vM_from vM_value vM_fault cM_found (4 : Int32) u13 hu13) (cwV 1 hts gX8_ahead_X8_finds rfl rfl rfl (by decide +kernel) ⟨Nat.le_of_ble_eq_true rfl, Nat.le_of_ble_eq_true rfl⟩) 0 [0, 1] [1, 2, 0, 0, 0, 0, 0, 0, 0] [] (w_X8_ahead cyI cyJ cyZ cyB cyO aM aM_found aM_d aM_f aM_came aM_got aM_held aM_off aM_gets aM_e aM_kept aM_tape aM_comesUp aM_comesDown aM_path aM_gotNow aM_bitsOf aM_sizeOf aM_number aM_passing vM_isKept vM_taped vM_leaked vM_keptAll vM_offAll vM_up vM_down vM_sharesUp vM_sharesDown vM_onUp vM_onDown vM_great vM_triedOff vM_triedLeaked vM_triedKept vM_fitting vM_firstSet vM_inAll vM_inAny vM_at vM_sort vM_from vM_value vM_fault u13.2 cM_d cM_f cM_came cM_got cM_held cM_off cM_gets) rfl rfl rfl rfl rfl (by decide +kernel) rfl rfl (Nat.le_of_ble_eq_true rfl) ⟨Nat.zero_le _, Nat.zero_le _⟩ dX8_ahead_46 (fun H locs hP hD hS => ?_)
        obtain rfl := Option.some.inj h
        exact hret _ _ _ _ _ hP hD hS dX8_ahead_49 rfl rfl
    · have h := br_pos c5 h
      refine lv_aload_n hx hb dX8_ahead_30 rfl (lv_at hl 0 rfl) ?_
      refine lv_iconst (v := 0) hx hb dX8_ahead_31 (by decide) ?_
      obtain ⟨u14, hu14, h⟩ := bd_some h
      refine cl_Vi (rest := []) F hK hP hD hS hA hl (t_X8_finds l D cyI cyJ cyZ cyB cyO aM aM_found aM_d aM_e aM_f aM_kept aM_tape aM_came aM_got aM_held aM_off aM_comesUp aM_comesDown aM_path aM_gets aM_gotNow aM_bitsOf aM_sizeOf aM_number aM_passing vM_isKept vM_taped vM_leaked vM_keptAll vM_offAll vM_up vM_down vM_sharesUp vM_sharesDown vM_onUp vM_onDown vM_great vM_triedOff vM_triedLeaked vM_triedKept vM_fitting vM_firstSet vM_inAll vM_inAny vM_at vM_sort vM_from vM_value vM_fault cM_found (0 : Int32) u14 hu14) (cwV 1 hts gX8_ahead_X8_finds rfl rfl rfl (by decide +kernel) ⟨Nat.le_of_ble_eq_true rfl, Nat.le_of_ble_eq_true rfl⟩) 0 [0, 1] [1, 2, 0, 0, 0, 0, 0, 0, 0] [] (w_X8_ahead cyI cyJ cyZ cyB cyO aM aM_found aM_d aM_f aM_came aM_got aM_held aM_off aM_gets aM_e aM_kept aM_tape aM_comesUp aM_comesDown aM_path aM_gotNow aM_bitsOf aM_sizeOf aM_number aM_passing vM_isKept vM_taped vM_leaked vM_keptAll vM_offAll vM_up vM_down vM_sharesUp vM_sharesDown vM_onUp vM_onDown vM_great vM_triedOff vM_triedLeaked vM_triedKept vM_fitting vM_firstSet vM_inAll vM_inAny vM_at vM_sort vM_from vM_value vM_fault u14.2 cM_d cM_f cM_came cM_got cM_held cM_off cM_gets) rfl rfl rfl rfl rfl (by decide +kernel) rfl rfl (Nat.le_of_ble_eq_true rfl) ⟨Nat.zero_le _, Nat.zero_le _⟩ dX8_ahead_32 (fun H locs hP hD hS => ?_)
      obtain rfl := Option.some.inj h
      exact hret _ _ _ _ _ hP hD hS dX8_ahead_35 rfl rfl
/-! ===== X8_when ===== -/
def w_X8_when (cyI cyJ cyZ cyB cyO : ClassId) (aM aM_d aM_found aM_f aM_came aM_got aM_held aM_off aM_e aM_kept aM_tape aM_comesUp aM_comesDown aM_path aM_gets aM_gotNow aM_bitsOf aM_sizeOf aM_number aM_passing : Nat) (vM_isKept : Int32) (vM_taped : Int32) (vM_leaked : Int32) (vM_keptAll : Int32) (vM_offAll : Int32) (vM_up : Int64) (vM_down : Int64) (vM_sharesUp : Int64) (vM_sharesDown : Int64) (vM_onUp : Int64) (vM_onDown : Int64) (vM_great : Int32) (vM_triedOff : Int32) (vM_triedLeaked : Int32) (vM_triedKept : Int32) (vM_fitting : Int32) (vM_firstSet : Int32) (vM_inAll : Int32) (vM_inAny : Int32) (vM_at : Int32) (vM_sort : Int32) (vM_from : Int32) (vM_value : Int64) (vM_fault : Int32) (cM_d : Nat → Int32) (cM_found : Nat → Int32) (cM_f : Nat → Int32) (cM_came : Nat → Int32) (cM_got : Nat → Int32) (cM_held : Nat → Int32) (cM_off : Nat → Int32) : va_W := [(aM, .inr (7, [.ref aM_d, .ref aM_e, .ref aM_f, .ref aM_kept, .int vM_isKept, .ref aM_found, .ref aM_tape, .int vM_taped, .ref aM_came, .ref aM_got, .ref aM_held, .ref aM_off, .int vM_leaked, .int vM_keptAll, .int vM_offAll, .ref aM_comesUp, .ref aM_comesDown, .long vM_up, .long vM_down, .long vM_sharesUp, .long vM_sharesDown, .long vM_onUp, .long vM_onDown, .int vM_great, .ref aM_path, .ref aM_gets, .int vM_triedOff, .int vM_triedLeaked, .int vM_triedKept, .ref aM_gotNow, .int vM_fitting, .int vM_firstSet, .int vM_inAll, .int vM_inAny, .int vM_at, .int vM_sort, .int vM_from, .long vM_value, .int vM_fault, .ref aM_bitsOf, .ref aM_sizeOf, .ref aM_number, .ref aM_passing])), (aM_d, .inl (cyI, 64, .inl cM_d)), (aM_found, .inl (cyI, 7, .inl cM_found)), (aM_f, .inl (cyI, 64, .inl cM_f)), (aM_came, .inl (cyI, 10, .inl cM_came)), (aM_got, .inl (cyI, 10, .inl cM_got)), (aM_held, .inl (cyI, 10, .inl cM_held)), (aM_off, .inl (cyI, 10, .inl cM_off))]
set_option maxHeartbeats 4000000 in
set_option maxRecDepth 100000 in
theorem t_X8_when (l : Launch) (D : va_G) (cyI cyJ cyZ cyB cyO : ClassId) (aM aM_d aM_found aM_f aM_came aM_got aM_held aM_off aM_e aM_kept aM_tape aM_comesUp aM_comesDown aM_path aM_gets aM_gotNow aM_bitsOf aM_sizeOf aM_number aM_passing : Nat) (vM_isKept : Int32) (vM_taped : Int32) (vM_leaked : Int32) (vM_keptAll : Int32) (vM_offAll : Int32) (vM_up : Int64) (vM_down : Int64) (vM_sharesUp : Int64) (vM_sharesDown : Int64) (vM_onUp : Int64) (vM_onDown : Int64) (vM_great : Int32) (vM_triedOff : Int32) (vM_triedLeaked : Int32) (vM_triedKept : Int32) (vM_fitting : Int32) (vM_firstSet : Int32) (vM_inAll : Int32) (vM_inAny : Int32) (vM_at : Int32) (vM_sort : Int32) (vM_from : Int32) (vM_value : Int64) (vM_fault : Int32) (cM_d : Nat → Int32) (cM_found : Nat → Int32) (cM_f : Nat → Int32) (cM_came : Nat → Int32) (cM_got : Nat → Int32) (cM_held : Nat → Int32) (cM_off : Nat → Int32) (x1 : Int32) (x2 : Int32) (out : Int32 × Int32 × Int32 × Int32 × (Nat → Int32) × (Nat → Int32) × (Nat → Int32) × (Nat → Int32) × (Nat → Int32) × (Nat → Int32) × (Nat → Int32)) (h : f_X8_when x1 x2 vM_leaked vM_keptAll vM_offAll cM_d cM_found cM_f cM_came cM_got cM_held cM_off = some out) : Mi l yX8_when wsX8_when ({ frames := 4, cells := 0, slots := 0, locals := 95 } : Room) D (tyA cyI cyJ cyZ cyB cyO) [.ref aM, .int x1, .int x2] (w_X8_when cyI cyJ cyZ cyB cyO aM aM_d aM_found aM_f aM_came aM_got aM_held aM_off aM_e aM_kept aM_tape aM_comesUp aM_comesDown aM_path aM_gets aM_gotNow aM_bitsOf aM_sizeOf aM_number aM_passing vM_isKept vM_taped vM_leaked vM_keptAll vM_offAll vM_up vM_down vM_sharesUp vM_sharesDown vM_onUp vM_onDown vM_great vM_triedOff vM_triedLeaked vM_triedKept vM_fitting vM_firstSet vM_inAll vM_inAny vM_at vM_sort vM_from vM_value vM_fault cM_d cM_found cM_f cM_came cM_got cM_held cM_off) (w_X8_when cyI cyJ cyZ cyB cyO aM aM_d aM_found aM_f aM_came aM_got aM_held aM_off aM_e aM_kept aM_tape aM_comesUp aM_comesDown aM_path aM_gets aM_gotNow aM_bitsOf aM_sizeOf aM_number aM_passing vM_isKept vM_taped out.2.1 out.2.2.1 out.2.2.2.1 vM_up vM_down vM_sharesUp vM_sharesDown vM_onUp vM_onDown vM_great vM_triedOff vM_triedLeaked vM_triedKept vM_fitting vM_firstSet vM_inAll vM_inAny vM_at vM_sort vM_from vM_value vM_fault out.2.2.2.2.1 out.2.2.2.2.2.1 out.2.2.2.2.2.2.1 out.2.2.2.2.2.2.2.1 out.2.2.2.2.2.2.2.2.1 out.2.2.2.2.2.2.2.2.2.1 out.2.2.2.2.2.2.2.2.2.2) out.1 := by
  refine Mi.mk (cc := cX8_when) (maxL := 4) (rt := .int) (own := RX8) (by decide) rfl rfl (Nat.le_of_ble_eq_true rfl) ?_
  intro p e s m args below meth c A Q F hK hP hD hA hret ls hl
  obtain ⟨hx, hb, hml, hown, hts⟩ := id F
  have hS : va_S A s.heap s.heap [] := va_S.rf
  have hl : lv_has ls 4 [(0, .ref aM), (1, .int x1), (2, .int x2)] := hl
  have in_X8 : ∀ w ∈ wsX80, w ∈ wsX8_when := by decide +kernel
  have q4 := hts (Cond.methodLink RX8 109 yX8_isBasin) (List.mem_of_getElem? (i := 4) rfl)
  have q12 := hts (Cond.methodLink RX8 115 yX8_finds) (List.mem_of_getElem? (i := 12) rfl)
  have q1 := hts (Cond.constantLong RX8 127 (99999)) (List.mem_of_getElem? (i := 1) rfl)
  have q9 := hts (Cond.methodLink RX8 70 yX8_in) (List.mem_of_getElem? (i := 9) rfl)
  have q18 := hts (Cond.methodLink RX8 206 yX8_isLate) (List.mem_of_getElem? (i := 18) rfl)
  have q2 := hts (Cond.fieldLink RX8 7 "ThirdFountainModel" "d" "[I") (List.mem_of_getElem? (i := 2) rfl)
  have q3 := hts (Cond.fieldLink RX8 16 "ThirdFountainModel" "f" "[I") (List.mem_of_getElem? (i := 3) rfl)
  have q22 := hts (Cond.methodLink RX8 189 yX8_copies) (List.mem_of_getElem? (i := 22) rfl)
  have q25 := hts (Cond.methodLink RX8 74 yX8_its) (List.mem_of_getElem? (i := 25) rfl)
  have q29 := hts (Cond.methodLink RX8 201 yX8_anHour) (List.mem_of_getElem? (i := 29) rfl)
  unfold f_X8_when at h
  refine lv_aload_n hx hb dX8_when_0 rfl (lv_at hl 0 rfl) ?_
  refine lv_iload_n hx hb dX8_when_1 rfl (lv_at hl 1 rfl) ?_
  obtain ⟨u1, hu1, h⟩ := bd_some h
  refine cl_Vi (rest := []) F hK hP hD hS hA hl (t_X8_isBasin l D cyI cyJ cyZ cyB cyO aM aM_d aM_e aM_f aM_kept aM_found aM_tape aM_came aM_got aM_held aM_off aM_comesUp aM_comesDown aM_path aM_gets aM_gotNow aM_bitsOf aM_sizeOf aM_number aM_passing vM_isKept vM_taped vM_leaked vM_keptAll vM_offAll vM_up vM_down vM_sharesUp vM_sharesDown vM_onUp vM_onDown vM_great vM_triedOff vM_triedLeaked vM_triedKept vM_fitting vM_firstSet vM_inAll vM_inAny vM_at vM_sort vM_from vM_value vM_fault cM_d x1 u1 hu1) (cwV 1 hts gX8_when_X8_isBasin rfl rfl rfl (by decide +kernel) ⟨Nat.le_of_ble_eq_true rfl, Nat.le_of_ble_eq_true rfl⟩) 0 [0, 1] [1, 2, 0, 0, 0, 0, 0, 0] [] (w_X8_when cyI cyJ cyZ cyB cyO aM aM_d aM_found aM_f aM_came aM_got aM_held aM_off aM_e aM_kept aM_tape aM_comesUp aM_comesDown aM_path aM_gets aM_gotNow aM_bitsOf aM_sizeOf aM_number aM_passing vM_isKept vM_taped vM_leaked vM_keptAll vM_offAll vM_up vM_down vM_sharesUp vM_sharesDown vM_onUp vM_onDown vM_great vM_triedOff vM_triedLeaked vM_triedKept vM_fitting vM_firstSet vM_inAll vM_inAny vM_at vM_sort vM_from vM_value vM_fault cM_d cM_found cM_f cM_came cM_got cM_held cM_off) rfl rfl rfl rfl rfl (by decide +kernel) rfl rfl (Nat.le_of_ble_eq_true rfl) ⟨Nat.zero_le _, Nat.zero_le _⟩ dX8_when_2 (fun H locs hP hD hS => ?_)
  refine lv_if_eq (tgt := 20) hx hb dX8_when_5 (by decide) (fun c2 => ?_) (fun c2 => ?_)
  · have h := br_pos c2 h
    refine lv_aload_n hx hb dX8_when_20 rfl (lv_at hl 0 rfl) ?_
    refine lv_iconst (v := 0) hx hb dX8_when_21 (by decide) ?_
    obtain ⟨u3, hu3, h⟩ := bd_some h
    refine cl_Vi (rest := []) F hK hP hD hS hA hl (t_X8_finds l D cyI cyJ cyZ cyB cyO aM aM_found aM_d aM_e aM_f aM_kept aM_tape aM_came aM_got aM_held aM_off aM_comesUp aM_comesDown aM_path aM_gets aM_gotNow aM_bitsOf aM_sizeOf aM_number aM_passing vM_isKept vM_taped vM_leaked vM_keptAll vM_offAll vM_up vM_down vM_sharesUp vM_sharesDown vM_onUp vM_onDown vM_great vM_triedOff vM_triedLeaked vM_triedKept vM_fitting vM_firstSet vM_inAll vM_inAny vM_at vM_sort vM_from vM_value vM_fault cM_found (0 : Int32) u3 hu3) (cwV 1 hts gX8_when_X8_finds rfl rfl rfl (by decide +kernel) ⟨Nat.le_of_ble_eq_true rfl, Nat.le_of_ble_eq_true rfl⟩) 0 [0, 2] [1, 0, 2, 0, 0, 0, 0, 0] [] (w_X8_when cyI cyJ cyZ cyB cyO aM aM_d aM_found aM_f aM_came aM_got aM_held aM_off aM_e aM_kept aM_tape aM_comesUp aM_comesDown aM_path aM_gets aM_gotNow aM_bitsOf aM_sizeOf aM_number aM_passing vM_isKept vM_taped vM_leaked vM_keptAll vM_offAll vM_up vM_down vM_sharesUp vM_sharesDown vM_onUp vM_onDown vM_great vM_triedOff vM_triedLeaked vM_triedKept vM_fitting vM_firstSet vM_inAll vM_inAny vM_at vM_sort vM_from vM_value vM_fault cM_d u3.2 cM_f cM_came cM_got cM_held cM_off) rfl rfl rfl rfl rfl (by decide +kernel) rfl rfl (Nat.le_of_ble_eq_true rfl) ⟨Nat.zero_le _, Nat.zero_le _⟩ dX8_when_22 (fun H locs hP hD hS => ?_)
    obtain rfl := Option.some.inj h
    exact hret _ _ _ _ _ hP hD hS dX8_when_25 rfl rfl
  · have h := br_neg c2 h
    refine lv_iload_n hx hb dX8_when_8 rfl (lv_at hl 2 rfl) ?_
    refine lv_i2l hx hb dX8_when_9 rfl ?_
    refine lv_lconst (v := 1) hx hb dX8_when_10 (by decide) ?_
    refine lv_ldc2 (v := 99999) hx hb hown q1 dX8_when_11 ?_
    obtain ⟨u4, hu4, h⟩ := bd_some h
    refine cl_Si (rest := []) F hK hP hD hS hA hl (t_X8_in l D cyI cyJ cyZ cyB cyO x2.toInt64 (1 : Int64) (99999 : Int64) u4 hu4) (va_cwS 3 hts gX8_when_X8_in rfl rfl rfl (by decide +kernel) ⟨Nat.le_of_ble_eq_true rfl, Nat.le_of_ble_eq_true rfl⟩) [] [0, 0, 0, 0, 0, 0, 0, 0] [] (w_X8_when cyI cyJ cyZ cyB cyO aM aM_d aM_found aM_f aM_came aM_got aM_held aM_off aM_e aM_kept aM_tape aM_comesUp aM_comesDown aM_path aM_gets aM_gotNow aM_bitsOf aM_sizeOf aM_number aM_passing vM_isKept vM_taped vM_leaked vM_keptAll vM_offAll vM_up vM_down vM_sharesUp vM_sharesDown vM_onUp vM_onDown vM_great vM_triedOff vM_triedLeaked vM_triedKept vM_fitting vM_firstSet vM_inAll vM_inAny vM_at vM_sort vM_from vM_value vM_fault cM_d cM_found cM_f cM_came cM_got cM_held cM_off) rfl rfl rfl (by decide +kernel) rfl rfl (Nat.le_of_ble_eq_true rfl) ⟨Nat.zero_le _, Nat.zero_le _⟩ dX8_when_14 (fun H locs hP hD hS => ?_)
    refine lv_if_ne (tgt := 26) hx hb dX8_when_17 (by decide) (fun c5 => ?_) (fun c5 => ?_)
    · have h := br_neg c5 h
      refine lv_aload_n hx hb dX8_when_26 rfl (lv_at hl 0 rfl) ?_
      refine lv_bipush (v := 100) hx hb dX8_when_27 (by decide) ?_
      obtain ⟨u6, hu6, h⟩ := bd_some h
      refine cl_Vi (rest := []) F hK hP hD hS hA hl (t_X8_isLate l D cyI cyJ cyZ cyB cyO aM aM_d aM_e aM_f aM_kept aM_found aM_tape aM_came aM_got aM_held aM_off aM_comesUp aM_comesDown aM_path aM_gets aM_gotNow aM_bitsOf aM_sizeOf aM_number aM_passing vM_isKept vM_taped vM_leaked vM_keptAll vM_offAll vM_up vM_down vM_sharesUp vM_sharesDown vM_onUp vM_onDown vM_great vM_triedOff vM_triedLeaked vM_triedKept vM_fitting vM_firstSet vM_inAll vM_inAny vM_at vM_sort vM_from vM_value vM_fault cM_d (100 : Int32) u6 hu6) (cwV 1 hts gX8_when_X8_isLate rfl rfl rfl (by decide +kernel) ⟨Nat.le_of_ble_eq_true rfl, Nat.le_of_ble_eq_true rfl⟩) 0 [0, 1] [1, 2, 0, 0, 0, 0, 0, 0] [] (w_X8_when cyI cyJ cyZ cyB cyO aM aM_d aM_found aM_f aM_came aM_got aM_held aM_off aM_e aM_kept aM_tape aM_comesUp aM_comesDown aM_path aM_gets aM_gotNow aM_bitsOf aM_sizeOf aM_number aM_passing vM_isKept vM_taped vM_leaked vM_keptAll vM_offAll vM_up vM_down vM_sharesUp vM_sharesDown vM_onUp vM_onDown vM_great vM_triedOff vM_triedLeaked vM_triedKept vM_fitting vM_firstSet vM_inAll vM_inAny vM_at vM_sort vM_from vM_value vM_fault cM_d cM_found cM_f cM_came cM_got cM_held cM_off) rfl rfl rfl rfl rfl (by decide +kernel) rfl rfl (Nat.le_of_ble_eq_true rfl) ⟨Nat.zero_le _, Nat.zero_le _⟩ dX8_when_29 (fun H locs hP hD hS => ?_)
      refine lv_if_eq (tgt := 41) hx hb dX8_when_32 (by decide) (fun c7 => ?_) (fun c7 => ?_)
      · have h := br_pos c7 h
        refine lv_aload_n hx hb dX8_when_41 rfl (lv_at hl 0 rfl) ?_
        refine va_get (D := D) (ci := 7) (v := .ref aM_d) (C := RX8) (T := TX8) (N := 43) hx hb hts in_X8 hown hK hP 0 rfl rfl 0 (by decide) q2 (fun _ h9 => h9) rfl dX8_when_42 ?_
        refine lv_aload_n hx hb dX8_when_45 rfl (lv_at hl 0 rfl) ?_
        refine va_get (D := D) (ci := 7) (v := .ref aM_f) (C := RX8) (T := TX8) (N := 43) hx hb hts in_X8 hown hK hP 0 rfl rfl 2 (by decide) q3 (fun _ h9 => h9) rfl dX8_when_46 ?_
        obtain ⟨u8, hu8, h⟩ := bd_some h
        refine cl_Sv (rest := []) F hK hP hD hS hA hl (t_X8_copies l D cyI cyJ cyZ cyB cyO aM_d aM_f cM_d cM_f u8 hu8) (va_cwS 2 hts gX8_when_X8_copies rfl rfl rfl (by decide +kernel) ⟨Nat.le_of_ble_eq_true rfl, Nat.le_of_ble_eq_true rfl⟩) [1, 3] [0, 1, 0, 2, 0, 0, 0, 0] [] (w_X8_when cyI cyJ cyZ cyB cyO aM aM_d aM_found aM_f aM_came aM_got aM_held aM_off aM_e aM_kept aM_tape aM_comesUp aM_comesDown aM_path aM_gets aM_gotNow aM_bitsOf aM_sizeOf aM_number aM_passing vM_isKept vM_taped vM_leaked vM_keptAll vM_offAll vM_up vM_down vM_sharesUp vM_sharesDown vM_onUp vM_onDown vM_great vM_triedOff vM_triedLeaked vM_triedKept vM_fitting vM_firstSet vM_inAll vM_inAny vM_at vM_sort vM_from vM_value vM_fault cM_d cM_found u8 cM_came cM_got cM_held cM_off) rfl rfl rfl (by decide +kernel) rfl rfl (Nat.le_of_ble_eq_true rfl) ⟨Nat.zero_le _, Nat.zero_le _⟩ dX8_when_49 (fun H locs hP hD hS => ?_)
        refine lv_iconst (v := 0) hx hb dX8_when_52 (by decide) ?_
        refine lv_istore_n (lv' := [(3, .int (0 : Int32)), (0, .ref aM), (1, .int x1), (2, .int x2)]) hx hb dX8_when_53 rfl hl (by decide) rfl (fun ls hl => ?_)
        have lp54 : ∀ (k54 : Nat) (y3 : Int32) (vM_leaked : Int32) (vM_keptAll : Int32) (vM_offAll : Int32) (cM_d : Nat → Int32) (cM_found : Nat → Int32) (cM_f : Nat → Int32) (cM_came : Nat → Int32) (cM_got : Nat → Int32) (cM_held : Nat → Int32) (cM_off : Nat → Int32) (H : Heap) (locs : List Loc) (ls : Array Slot), va_P D vwCl (w_X8_when cyI cyJ cyZ cyB cyO aM aM_d aM_found aM_f aM_came aM_got aM_held aM_off aM_e aM_kept aM_tape aM_comesUp aM_comesDown aM_path aM_gets aM_gotNow aM_bitsOf aM_sizeOf aM_number aM_passing vM_isKept vM_taped vM_leaked vM_keptAll vM_offAll vM_up vM_down vM_sharesUp vM_sharesDown vM_onUp vM_onDown vM_great vM_triedOff vM_triedLeaked vM_triedKept vM_fitting vM_firstSet vM_inAll vM_inAny vM_at vM_sort vM_from vM_value vM_fault cM_d cM_found cM_f cM_came cM_got cM_held cM_off) H → va_D A (w_X8_when cyI cyJ cyZ cyB cyO aM aM_d aM_found aM_f aM_came aM_got aM_held aM_off aM_e aM_kept aM_tape aM_comesUp aM_comesDown aM_path aM_gets aM_gotNow aM_bitsOf aM_sizeOf aM_number aM_passing vM_isKept vM_taped vM_leaked vM_keptAll vM_offAll vM_up vM_down vM_sharesUp vM_sharesDown vM_onUp vM_onDown vM_great vM_triedOff vM_triedLeaked vM_triedKept vM_fitting vM_firstSet vM_inAll vM_inAny vM_at vM_sort vM_from vM_value vM_fault cM_d cM_found cM_f cM_came cM_got cM_held cM_off) → va_S A s.heap H locs → lv_has ls 4 [(3, .int y3), (0, .ref aM), (1, .int x1), (2, .int x2)] → (f_X8_when_L54 x1 x2 k54) (y3, vM_leaked, vM_keptAll, vM_offAll, cM_d, cM_found, cM_f, cM_came, cM_got, cM_held, cM_off) = some out → W p l e ({ frames := 4, cells := 0, slots := 0, locals := 95 } : Room) s m args below meth c H locs 0 0 Q (F0 m 54 ls []) := by
          intro k54
          induction k54 with
          | zero => intro y3 vM_leaked vM_keptAll vM_offAll cM_d cM_found cM_f cM_came cM_got cM_held cM_off H locs ls hP hD hS hl h; cases h
          | succ k54 ih54 =>
            intro y3 vM_leaked vM_keptAll vM_offAll cM_d cM_found cM_f cM_came cM_got cM_held cM_off H locs ls hP hD hS hl h
            have h : f_X8_when_L54_b x1 x2 (f_X8_when_L54 x1 x2 k54) y3 vM_leaked vM_keptAll vM_offAll cM_d cM_found cM_f cM_came cM_got cM_held cM_off = some out := h
            unfold f_X8_when_L54_b at h
            refine lv_iload_n hx hb dX8_when_54 rfl (lv_at hl 0 rfl) ?_
            refine lv_bipush (v := 100) hx hb dX8_when_55 (by decide) ?_
            have j80 : ∀ (y3 : Int32) (vM_leaked : Int32) (vM_keptAll : Int32) (vM_offAll : Int32) (cM_d : Nat → Int32) (cM_found : Nat → Int32) (cM_f : Nat → Int32) (cM_came : Nat → Int32) (cM_got : Nat → Int32) (cM_held : Nat → Int32) (cM_off : Nat → Int32) (H : Heap) (locs : List Loc) (ls : Array Slot), va_P D vwCl (w_X8_when cyI cyJ cyZ cyB cyO aM aM_d aM_found aM_f aM_came aM_got aM_held aM_off aM_e aM_kept aM_tape aM_comesUp aM_comesDown aM_path aM_gets aM_gotNow aM_bitsOf aM_sizeOf aM_number aM_passing vM_isKept vM_taped vM_leaked vM_keptAll vM_offAll vM_up vM_down vM_sharesUp vM_sharesDown vM_onUp vM_onDown vM_great vM_triedOff vM_triedLeaked vM_triedKept vM_fitting vM_firstSet vM_inAll vM_inAny vM_at vM_sort vM_from vM_value vM_fault cM_d cM_found cM_f cM_came cM_got cM_held cM_off) H → va_D A (w_X8_when cyI cyJ cyZ cyB cyO aM aM_d aM_found aM_f aM_came aM_got aM_held aM_off aM_e aM_kept aM_tape aM_comesUp aM_comesDown aM_path aM_gets aM_gotNow aM_bitsOf aM_sizeOf aM_number aM_passing vM_isKept vM_taped vM_leaked vM_keptAll vM_offAll vM_up vM_down vM_sharesUp vM_sharesDown vM_onUp vM_onDown vM_great vM_triedOff vM_triedLeaked vM_triedKept vM_fitting vM_firstSet vM_inAll vM_inAny vM_at vM_sort vM_from vM_value vM_fault cM_d cM_found cM_f cM_came cM_got cM_held cM_off) → va_S A s.heap H locs → lv_has ls 4 [(3, .int y3), (0, .ref aM)] → f_X8_when_J80 x1 x2 y3 vM_leaked vM_keptAll vM_offAll cM_d cM_found cM_f cM_came cM_got cM_held cM_off = some out → W p l e ({ frames := 4, cells := 0, slots := 0, locals := 95 } : Room) s m args below meth c H locs 0 0 Q (F0 m 80 ls []) := by
              intro y3 vM_leaked vM_keptAll vM_offAll cM_d cM_found cM_f cM_came cM_got cM_held cM_off H locs ls hP hD hS hl h
              unfold f_X8_when_J80 at h
              refine lv_aload_n hx hb dX8_when_80 rfl (lv_at hl 1 rfl) ?_
              refine va_get (D := D) (ci := 7) (v := .ref aM_f) (C := RX8) (T := TX8) (N := 43) hx hb hts in_X8 hown hK hP 0 rfl rfl 2 (by decide) q3 (fun _ h9 => h9) rfl dX8_when_81 ?_
              refine lv_aload_n hx hb dX8_when_84 rfl (lv_at hl 1 rfl) ?_
              refine va_get (D := D) (ci := 7) (v := .ref aM_d) (C := RX8) (T := TX8) (N := 43) hx hb hts in_X8 hown hK hP 0 rfl rfl 0 (by decide) q2 (fun _ h9 => h9) rfl dX8_when_85 ?_
              obtain ⟨u9, hu9, h⟩ := bd_some h
              refine cl_Sv (rest := []) F hK hP hD hS hA hl (t_X8_copies l D cyI cyJ cyZ cyB cyO aM_f aM_d cM_f cM_d u9 hu9) (va_cwS 2 hts gX8_when_X8_copies rfl rfl rfl (by decide +kernel) ⟨Nat.le_of_ble_eq_true rfl, Nat.le_of_ble_eq_true rfl⟩) [3, 1] [0, 2, 0, 1, 0, 0, 0, 0] [] (w_X8_when cyI cyJ cyZ cyB cyO aM aM_d aM_found aM_f aM_came aM_got aM_held aM_off aM_e aM_kept aM_tape aM_comesUp aM_comesDown aM_path aM_gets aM_gotNow aM_bitsOf aM_sizeOf aM_number aM_passing vM_isKept vM_taped vM_leaked vM_keptAll vM_offAll vM_up vM_down vM_sharesUp vM_sharesDown vM_onUp vM_onDown vM_great vM_triedOff vM_triedLeaked vM_triedKept vM_fitting vM_firstSet vM_inAll vM_inAny vM_at vM_sort vM_from vM_value vM_fault u9 cM_found cM_f cM_came cM_got cM_held cM_off) rfl rfl rfl (by decide +kernel) rfl rfl (Nat.le_of_ble_eq_true rfl) ⟨Nat.zero_le _, Nat.zero_le _⟩ dX8_when_88 (fun H locs hP hD hS => ?_)
              refine lv_iload_n hx hb dX8_when_91 rfl (lv_at hl 0 rfl) ?_
              refine lv_bipush (v := 100) hx hb dX8_when_92 (by decide) ?_
              refine lv_icmp_le (tgt := 105) hx hb dX8_when_94 (by decide) (fun c10 => ?_) (fun c10 => ?_)
              · have h := br_pos c10 h
                refine lv_iload_n hx hb dX8_when_105 rfl (lv_at hl 0 rfl) ?_
                obtain rfl := Option.some.inj h
                exact hret _ _ _ _ _ hP hD hS dX8_when_106 rfl rfl
              · have h := br_neg c10 h
                refine lv_aload_n hx hb dX8_when_97 rfl (lv_at hl 1 rfl) ?_
                refine lv_iconst (v := 3) hx hb dX8_when_98 (by decide) ?_
                obtain ⟨u11, hu11, h⟩ := bd_some h
                refine cl_Vi (rest := []) F hK hP hD hS hA hl (t_X8_finds l D cyI cyJ cyZ cyB cyO aM aM_found aM_d aM_e aM_f aM_kept aM_tape aM_came aM_got aM_held aM_off aM_comesUp aM_comesDown aM_path aM_gets aM_gotNow aM_bitsOf aM_sizeOf aM_number aM_passing vM_isKept vM_taped vM_leaked vM_keptAll vM_offAll vM_up vM_down vM_sharesUp vM_sharesDown vM_onUp vM_onDown vM_great vM_triedOff vM_triedLeaked vM_triedKept vM_fitting vM_firstSet vM_inAll vM_inAny vM_at vM_sort vM_from vM_value vM_fault cM_found (3 : Int32) u11 hu11) (cwV 1 hts gX8_when_X8_finds rfl rfl rfl (by decide +kernel) ⟨Nat.le_of_ble_eq_true rfl, Nat.le_of_ble_eq_true rfl⟩) 0 [0, 2] [1, 0, 2, 0, 0, 0, 0, 0] [] (w_X8_when cyI cyJ cyZ cyB cyO aM aM_d aM_found aM_f aM_came aM_got aM_held aM_off aM_e aM_kept aM_tape aM_comesUp aM_comesDown aM_path aM_gets aM_gotNow aM_bitsOf aM_sizeOf aM_number aM_passing vM_isKept vM_taped vM_leaked vM_keptAll vM_offAll vM_up vM_down vM_sharesUp vM_sharesDown vM_onUp vM_onDown vM_great vM_triedOff vM_triedLeaked vM_triedKept vM_fitting vM_firstSet vM_inAll vM_inAny vM_at vM_sort vM_from vM_value vM_fault u9 u11.2 cM_f cM_came cM_got cM_held cM_off) rfl rfl rfl rfl rfl (by decide +kernel) rfl rfl (Nat.le_of_ble_eq_true rfl) ⟨Nat.zero_le _, Nat.zero_le _⟩ dX8_when_99 (fun H locs hP hD hS => ?_)
                refine lv_goto (tgt := 106) hx hb dX8_when_102 (by decide) ?_
                obtain rfl := Option.some.inj h
                exact hret _ _ _ _ _ hP hD hS dX8_when_106 rfl rfl
            refine lv_icmp_gt (tgt := 80) hx hb dX8_when_57 (by decide) (fun c12 => ?_) (fun c12 => ?_)
            · have h := br_pos c12 h
              exact j80 y3 vM_leaked vM_keptAll vM_offAll cM_d cM_found cM_f cM_came cM_got cM_held cM_off _ _ _ hP hD hS (lv_sub hl [0, 1] rfl) h
            · have h := br_neg c12 h
              refine lv_aload_n hx hb dX8_when_60 rfl (lv_at hl 1 rfl) ?_
              refine lv_iload_n hx hb dX8_when_61 rfl (lv_at hl 2 rfl) ?_
              refine lv_iconst (v := 4) hx hb dX8_when_62 (by decide) ?_
              obtain ⟨u13, hu13, h⟩ := bd_some h
              refine cl_Vi (rest := []) F hK hP hD hS hA hl (t_X8_its l D cyI cyJ cyZ cyB cyO aM aM_d aM_e aM_f aM_kept aM_found aM_tape aM_came aM_got aM_held aM_off aM_comesUp aM_comesDown aM_path aM_gets aM_gotNow aM_bitsOf aM_sizeOf aM_number aM_passing vM_isKept vM_taped vM_leaked vM_keptAll vM_offAll vM_up vM_down vM_sharesUp vM_sharesDown vM_onUp vM_onDown vM_great vM_triedOff vM_triedLeaked vM_triedKept vM_fitting vM_firstSet vM_inAll vM_inAny vM_at vM_sort vM_from vM_value vM_fault cM_d x1 (4 : Int32) u13 hu13) (cwV 2 hts gX8_when_X8_its rfl rfl rfl (by decide +kernel) ⟨Nat.le_of_ble_eq_true rfl, Nat.le_of_ble_eq_true rfl⟩) 0 [0, 1] [1, 2, 0, 0, 0, 0, 0, 0] [] (w_X8_when cyI cyJ cyZ cyB cyO aM aM_d aM_found aM_f aM_came aM_got aM_held aM_off aM_e aM_kept aM_tape aM_comesUp aM_comesDown aM_path aM_gets aM_gotNow aM_bitsOf aM_sizeOf aM_number aM_passing vM_isKept vM_taped vM_leaked vM_keptAll vM_offAll vM_up vM_down vM_sharesUp vM_sharesDown vM_onUp vM_onDown vM_great vM_triedOff vM_triedLeaked vM_triedKept vM_fitting vM_firstSet vM_inAll vM_inAny vM_at vM_sort vM_from vM_value vM_fault cM_d cM_found cM_f cM_came cM_got cM_held cM_off) rfl rfl rfl rfl rfl (by decide +kernel) rfl rfl (Nat.le_of_ble_eq_true rfl) ⟨Nat.zero_le _, Nat.zero_le _⟩ dX8_when_63 (fun H locs hP hD hS => ?_)
              refine lv_iload_n hx hb dX8_when_66 rfl (lv_at hl 3 rfl) ?_
              refine lv_icmp_ge (tgt := 80) hx hb dX8_when_67 (by decide) (fun c14 => ?_) (fun c14 => ?_)
              · have h := br_pos c14 h
                exact j80 y3 vM_leaked vM_keptAll vM_offAll cM_d cM_found cM_f cM_came cM_got cM_held cM_off _ _ _ hP hD hS (lv_sub hl [0, 1] rfl) h
              · have h := br_neg c14 h
                refine lv_aload_n hx hb dX8_when_70 rfl (lv_at hl 1 rfl) ?_
                obtain ⟨u15, hu15, h⟩ := bd_some h
                refine cl_Vv (rest := []) F hK hP hD hS hA hl (t_X8_anHour l D cyI cyJ cyZ cyB cyO aM aM_d aM_came aM_got aM_held aM_off aM_e aM_f aM_kept aM_found aM_tape aM_comesUp aM_comesDown aM_path aM_gets aM_gotNow aM_bitsOf aM_sizeOf aM_number aM_passing vM_isKept vM_taped vM_leaked vM_keptAll vM_offAll vM_up vM_down vM_sharesUp vM_sharesDown vM_onUp vM_onDown vM_great vM_triedOff vM_triedLeaked vM_triedKept vM_fitting vM_firstSet vM_inAll vM_inAny vM_at vM_sort vM_from vM_value vM_fault cM_d cM_came cM_got cM_held cM_off u15 hu15) (cwV 0 hts gX8_when_X8_anHour rfl rfl rfl (by decide +kernel) ⟨Nat.le_of_ble_eq_true rfl, Nat.le_of_ble_eq_true rfl⟩) 0 [0, 1, 4, 5, 6, 7] [1, 2, 0, 0, 3, 4, 5, 6] [] (w_X8_when cyI cyJ cyZ cyB cyO aM aM_d aM_found aM_f aM_came aM_got aM_held aM_off aM_e aM_kept aM_tape aM_comesUp aM_comesDown aM_path aM_gets aM_gotNow aM_bitsOf aM_sizeOf aM_number aM_passing vM_isKept vM_taped u15.1 u15.2.1 u15.2.2.1 vM_up vM_down vM_sharesUp vM_sharesDown vM_onUp vM_onDown vM_great vM_triedOff vM_triedLeaked vM_triedKept vM_fitting vM_firstSet vM_inAll vM_inAny vM_at vM_sort vM_from vM_value vM_fault u15.2.2.2.1 cM_found cM_f u15.2.2.2.2.1 u15.2.2.2.2.2.1 u15.2.2.2.2.2.2.1 u15.2.2.2.2.2.2.2) rfl rfl rfl rfl rfl (by decide +kernel) rfl rfl (Nat.le_of_ble_eq_true rfl) ⟨Nat.zero_le _, Nat.zero_le _⟩ dX8_when_71 (fun H locs hP hD hS => ?_)
                refine lv_iinc (v := y3 + 1) (lv' := [(3, .int (y3 + 1)), (0, .ref aM), (1, .int x1), (2, .int x2)]) hx hb dX8_when_74 hl (k := 0) rfl rfl (by decide) rfl (fun ls hl => ?_)
                refine lv_goto (tgt := 54) hx hb dX8_when_77 (by decide) ?_
                exact ih54 (y3 + 1) u15.1 u15.2.1 u15.2.2.1 u15.2.2.2.1 cM_found cM_f u15.2.2.2.2.1 u15.2.2.2.2.2.1 u15.2.2.2.2.2.2.1 u15.2.2.2.2.2.2.2 _ _ _ hP hD hS (lv_sub hl [0, 1, 2, 3] rfl) h
        exact lp54 FU (0 : Int32) vM_leaked vM_keptAll vM_offAll cM_d cM_found u8 cM_came cM_got cM_held cM_off _ _ _ hP hD hS (lv_sub hl [0, 1, 2, 3] rfl) h
      · have h := br_neg c7 h
        refine lv_aload_n hx hb dX8_when_35 rfl (lv_at hl 0 rfl) ?_
        refine lv_iconst (v := 4) hx hb dX8_when_36 (by decide) ?_
        obtain ⟨u16, hu16, h⟩ := bd_some h
        refine cl_Vi (rest := []) F hK hP hD hS hA hl (t_X8_finds l D cyI cyJ cyZ cyB cyO aM aM_found aM_d aM_e aM_f aM_kept aM_tape aM_came aM_got aM_held aM_off aM_comesUp aM_comesDown aM_path aM_gets aM_gotNow aM_bitsOf aM_sizeOf aM_number aM_passing vM_isKept vM_taped vM_leaked vM_keptAll vM_offAll vM_up vM_down vM_sharesUp vM_sharesDown vM_onUp vM_onDown vM_great vM_triedOff vM_triedLeaked vM_triedKept vM_fitting vM_firstSet vM_inAll vM_inAny vM_at vM_sort vM_from vM_value vM_fault cM_found (4 : Int32) u16 hu16) (cwV 1 hts gX8_when_X8_finds rfl rfl rfl (by decide +kernel) ⟨Nat.le_of_ble_eq_true rfl, Nat.le_of_ble_eq_true rfl⟩) 0 [0, 2] [1, 0, 2, 0, 0, 0, 0, 0] [] (w_X8_when cyI cyJ cyZ cyB cyO aM aM_d aM_found aM_f aM_came aM_got aM_held aM_off aM_e aM_kept aM_tape aM_comesUp aM_comesDown aM_path aM_gets aM_gotNow aM_bitsOf aM_sizeOf aM_number aM_passing vM_isKept vM_taped vM_leaked vM_keptAll vM_offAll vM_up vM_down vM_sharesUp vM_sharesDown vM_onUp vM_onDown vM_great vM_triedOff vM_triedLeaked vM_triedKept vM_fitting vM_firstSet vM_inAll vM_inAny vM_at vM_sort vM_from vM_value vM_fault cM_d u16.2 cM_f cM_came cM_got cM_held cM_off) rfl rfl rfl rfl rfl (by decide +kernel) rfl rfl (Nat.le_of_ble_eq_true rfl) ⟨Nat.zero_le _, Nat.zero_le _⟩ dX8_when_37 (fun H locs hP hD hS => ?_)
        obtain rfl := Option.some.inj h
        exact hret _ _ _ _ _ hP hD hS dX8_when_40 rfl rfl
    · have h := br_pos c5 h
      refine lv_aload_n hx hb dX8_when_20 rfl (lv_at hl 0 rfl) ?_
      refine lv_iconst (v := 0) hx hb dX8_when_21 (by decide) ?_
      obtain ⟨u17, hu17, h⟩ := bd_some h
      refine cl_Vi (rest := []) F hK hP hD hS hA hl (t_X8_finds l D cyI cyJ cyZ cyB cyO aM aM_found aM_d aM_e aM_f aM_kept aM_tape aM_came aM_got aM_held aM_off aM_comesUp aM_comesDown aM_path aM_gets aM_gotNow aM_bitsOf aM_sizeOf aM_number aM_passing vM_isKept vM_taped vM_leaked vM_keptAll vM_offAll vM_up vM_down vM_sharesUp vM_sharesDown vM_onUp vM_onDown vM_great vM_triedOff vM_triedLeaked vM_triedKept vM_fitting vM_firstSet vM_inAll vM_inAny vM_at vM_sort vM_from vM_value vM_fault cM_found (0 : Int32) u17 hu17) (cwV 1 hts gX8_when_X8_finds rfl rfl rfl (by decide +kernel) ⟨Nat.le_of_ble_eq_true rfl, Nat.le_of_ble_eq_true rfl⟩) 0 [0, 2] [1, 0, 2, 0, 0, 0, 0, 0] [] (w_X8_when cyI cyJ cyZ cyB cyO aM aM_d aM_found aM_f aM_came aM_got aM_held aM_off aM_e aM_kept aM_tape aM_comesUp aM_comesDown aM_path aM_gets aM_gotNow aM_bitsOf aM_sizeOf aM_number aM_passing vM_isKept vM_taped vM_leaked vM_keptAll vM_offAll vM_up vM_down vM_sharesUp vM_sharesDown vM_onUp vM_onDown vM_great vM_triedOff vM_triedLeaked vM_triedKept vM_fitting vM_firstSet vM_inAll vM_inAny vM_at vM_sort vM_from vM_value vM_fault cM_d u17.2 cM_f cM_came cM_got cM_held cM_off) rfl rfl rfl rfl rfl (by decide +kernel) rfl rfl (Nat.le_of_ble_eq_true rfl) ⟨Nat.zero_le _, Nat.zero_le _⟩ dX8_when_22 (fun H locs hP hD hS => ?_)
      obtain rfl := Option.some.inj h
      exact hret _ _ _ _ _ hP hD hS dX8_when_25 rfl rfl
/-! ===== X8_loses ===== -/
def w_X8_loses (cyI cyJ cyZ cyB cyO : ClassId) (aM aM_d aM_found aM_path aM_comesUp aM_comesDown aM_f aM_came aM_got aM_held aM_off aM_gets aM_e aM_kept aM_tape aM_gotNow aM_bitsOf aM_sizeOf aM_number aM_passing : Nat) (vM_isKept : Int32) (vM_taped : Int32) (vM_leaked : Int32) (vM_keptAll : Int32) (vM_offAll : Int32) (vM_up : Int64) (vM_down : Int64) (vM_sharesUp : Int64) (vM_sharesDown : Int64) (vM_onUp : Int64) (vM_onDown : Int64) (vM_great : Int32) (vM_triedOff : Int32) (vM_triedLeaked : Int32) (vM_triedKept : Int32) (vM_fitting : Int32) (vM_firstSet : Int32) (vM_inAll : Int32) (vM_inAny : Int32) (vM_at : Int32) (vM_sort : Int32) (vM_from : Int32) (vM_value : Int64) (vM_fault : Int32) (cM_d : Nat → Int32) (cM_found : Nat → Int32) (cM_path : Nat → Int32) (cM_comesUp : Nat → Int64) (cM_comesDown : Nat → Int64) (cM_f : Nat → Int32) (cM_came : Nat → Int32) (cM_got : Nat → Int32) (cM_held : Nat → Int32) (cM_off : Nat → Int32) (cM_gets : Nat → Int32) : va_W := [(aM, .inr (7, [.ref aM_d, .ref aM_e, .ref aM_f, .ref aM_kept, .int vM_isKept, .ref aM_found, .ref aM_tape, .int vM_taped, .ref aM_came, .ref aM_got, .ref aM_held, .ref aM_off, .int vM_leaked, .int vM_keptAll, .int vM_offAll, .ref aM_comesUp, .ref aM_comesDown, .long vM_up, .long vM_down, .long vM_sharesUp, .long vM_sharesDown, .long vM_onUp, .long vM_onDown, .int vM_great, .ref aM_path, .ref aM_gets, .int vM_triedOff, .int vM_triedLeaked, .int vM_triedKept, .ref aM_gotNow, .int vM_fitting, .int vM_firstSet, .int vM_inAll, .int vM_inAny, .int vM_at, .int vM_sort, .int vM_from, .long vM_value, .int vM_fault, .ref aM_bitsOf, .ref aM_sizeOf, .ref aM_number, .ref aM_passing])), (aM_d, .inl (cyI, 64, .inl cM_d)), (aM_found, .inl (cyI, 7, .inl cM_found)), (aM_path, .inl (cyI, 10, .inl cM_path)), (aM_comesUp, .inl (cyJ, 10, .inr (.inl cM_comesUp))), (aM_comesDown, .inl (cyJ, 10, .inr (.inl cM_comesDown))), (aM_f, .inl (cyI, 64, .inl cM_f)), (aM_came, .inl (cyI, 10, .inl cM_came)), (aM_got, .inl (cyI, 10, .inl cM_got)), (aM_held, .inl (cyI, 10, .inl cM_held)), (aM_off, .inl (cyI, 10, .inl cM_off)), (aM_gets, .inl (cyI, 10, .inl cM_gets))]
set_option maxHeartbeats 4000000 in
set_option maxRecDepth 100000 in
theorem t_X8_loses (l : Launch) (D : va_G) (cyI cyJ cyZ cyB cyO : ClassId) (aM aM_d aM_found aM_path aM_comesUp aM_comesDown aM_f aM_came aM_got aM_held aM_off aM_gets aM_e aM_kept aM_tape aM_gotNow aM_bitsOf aM_sizeOf aM_number aM_passing : Nat) (vM_isKept : Int32) (vM_taped : Int32) (vM_leaked : Int32) (vM_keptAll : Int32) (vM_offAll : Int32) (vM_up : Int64) (vM_down : Int64) (vM_sharesUp : Int64) (vM_sharesDown : Int64) (vM_onUp : Int64) (vM_onDown : Int64) (vM_great : Int32) (vM_triedOff : Int32) (vM_triedLeaked : Int32) (vM_triedKept : Int32) (vM_fitting : Int32) (vM_firstSet : Int32) (vM_inAll : Int32) (vM_inAny : Int32) (vM_at : Int32) (vM_sort : Int32) (vM_from : Int32) (vM_value : Int64) (vM_fault : Int32) (cM_d : Nat → Int32) (cM_found : Nat → Int32) (cM_path : Nat → Int32) (cM_comesUp : Nat → Int64) (cM_comesDown : Nat → Int64) (cM_f : Nat → Int32) (cM_came : Nat → Int32) (cM_got : Nat → Int32) (cM_held : Nat → Int32) (cM_off : Nat → Int32) (cM_gets : Nat → Int32) (x1 : Int32) (x2 : Int32) (out : Int32 × Int32 × Int32 × Int32 × Int64 × Int64 × Int64 × Int64 × Int64 × Int64 × Int32 × Int32 × Int32 × Int32 × (Nat → Int32) × (Nat → Int32) × (Nat → Int32) × (Nat → Int64) × (Nat → Int64) × (Nat → Int32) × (Nat → Int32) × (Nat → Int32) × (Nat → Int32) × (Nat → Int32) × (Nat → Int32)) (h : f_X8_loses x1 x2 vM_leaked vM_keptAll vM_offAll vM_up vM_down vM_sharesUp vM_sharesDown vM_onUp vM_onDown vM_great vM_triedOff vM_triedLeaked vM_triedKept cM_d cM_found cM_path cM_comesUp cM_comesDown cM_f cM_came cM_got cM_held cM_off cM_gets = some out) : Mi l yX8_loses wsX8_loses ({ frames := 5, cells := 0, slots := 0, locals := 136 } : Room) D (tyA cyI cyJ cyZ cyB cyO) [.ref aM, .int x1, .int x2] (w_X8_loses cyI cyJ cyZ cyB cyO aM aM_d aM_found aM_path aM_comesUp aM_comesDown aM_f aM_came aM_got aM_held aM_off aM_gets aM_e aM_kept aM_tape aM_gotNow aM_bitsOf aM_sizeOf aM_number aM_passing vM_isKept vM_taped vM_leaked vM_keptAll vM_offAll vM_up vM_down vM_sharesUp vM_sharesDown vM_onUp vM_onDown vM_great vM_triedOff vM_triedLeaked vM_triedKept vM_fitting vM_firstSet vM_inAll vM_inAny vM_at vM_sort vM_from vM_value vM_fault cM_d cM_found cM_path cM_comesUp cM_comesDown cM_f cM_came cM_got cM_held cM_off cM_gets) (w_X8_loses cyI cyJ cyZ cyB cyO aM aM_d aM_found aM_path aM_comesUp aM_comesDown aM_f aM_came aM_got aM_held aM_off aM_gets aM_e aM_kept aM_tape aM_gotNow aM_bitsOf aM_sizeOf aM_number aM_passing vM_isKept vM_taped out.2.1 out.2.2.1 out.2.2.2.1 out.2.2.2.2.1 out.2.2.2.2.2.1 out.2.2.2.2.2.2.1 out.2.2.2.2.2.2.2.1 out.2.2.2.2.2.2.2.2.1 out.2.2.2.2.2.2.2.2.2.1 out.2.2.2.2.2.2.2.2.2.2.1 out.2.2.2.2.2.2.2.2.2.2.2.1 out.2.2.2.2.2.2.2.2.2.2.2.2.1 out.2.2.2.2.2.2.2.2.2.2.2.2.2.1 vM_fitting vM_firstSet vM_inAll vM_inAny vM_at vM_sort vM_from vM_value vM_fault out.2.2.2.2.2.2.2.2.2.2.2.2.2.2.1 out.2.2.2.2.2.2.2.2.2.2.2.2.2.2.2.1 out.2.2.2.2.2.2.2.2.2.2.2.2.2.2.2.2.1 out.2.2.2.2.2.2.2.2.2.2.2.2.2.2.2.2.2.1 out.2.2.2.2.2.2.2.2.2.2.2.2.2.2.2.2.2.2.1 out.2.2.2.2.2.2.2.2.2.2.2.2.2.2.2.2.2.2.2.1 out.2.2.2.2.2.2.2.2.2.2.2.2.2.2.2.2.2.2.2.2.1 out.2.2.2.2.2.2.2.2.2.2.2.2.2.2.2.2.2.2.2.2.2.1 out.2.2.2.2.2.2.2.2.2.2.2.2.2.2.2.2.2.2.2.2.2.2.1 out.2.2.2.2.2.2.2.2.2.2.2.2.2.2.2.2.2.2.2.2.2.2.2.1 out.2.2.2.2.2.2.2.2.2.2.2.2.2.2.2.2.2.2.2.2.2.2.2.2) out.1 := by
  refine Mi.mk (cc := cX8_loses) (maxL := 3) (rt := .int) (own := RX8) (by decide) rfl rfl (Nat.le_of_ble_eq_true rfl) ?_
  intro p e s m args below meth c A Q F hK hP hD hA hret ls hl
  obtain ⟨hx, hb, hml, hown, hts⟩ := id F
  have hS : va_S A s.heap s.heap [] := va_S.rf
  have hl : lv_has ls 3 [(0, .ref aM), (1, .int x1), (2, .int x2)] := hl
  have in_X8 : ∀ w ∈ wsX80, w ∈ wsX8_loses := by decide +kernel
  have q6 := hts (Cond.methodLink RX8 109 yX8_isBasin) (List.mem_of_getElem? (i := 6) rfl)
  have q14 := hts (Cond.methodLink RX8 115 yX8_finds) (List.mem_of_getElem? (i := 14) rfl)
  have q1 := hts (Cond.constantLong RX8 204 (100)) (List.mem_of_getElem? (i := 1) rfl)
  have q11 := hts (Cond.methodLink RX8 70 yX8_in) (List.mem_of_getElem? (i := 11) rfl)
  have q20 := hts (Cond.methodLink RX8 206 yX8_isLate) (List.mem_of_getElem? (i := 20) rfl)
  have q24 := hts (Cond.methodLink RX8 180 yX8_isShare) (List.mem_of_getElem? (i := 24) rfl)
  have q66 := hts (Cond.methodLink RX8 224 yX8_tries) (List.mem_of_getElem? (i := 66) rfl)
  have q2 := hts (Cond.fieldLink RX8 160 "ThirdFountainModel" "sharesUp" "J") (List.mem_of_getElem? (i := 2) rfl)
  have q3 := hts (Cond.fieldLink RX8 7 "ThirdFountainModel" "d" "[I") (List.mem_of_getElem? (i := 3) rfl)
  have q4 := hts (Cond.fieldLink RX8 163 "ThirdFountainModel" "sharesDown" "J") (List.mem_of_getElem? (i := 4) rfl)
  have q5 := hts (Cond.fieldLink RX8 51 "ThirdFountainModel" "gets" "[I") (List.mem_of_getElem? (i := 5) rfl)
  unfold f_X8_loses at h
  refine lv_aload_n hx hb dX8_loses_0 rfl (lv_at hl 0 rfl) ?_
  refine lv_iload_n hx hb dX8_loses_1 rfl (lv_at hl 1 rfl) ?_
  obtain ⟨u1, hu1, h⟩ := bd_some h
  refine cl_Vi (rest := []) F hK hP hD hS hA hl (t_X8_isBasin l D cyI cyJ cyZ cyB cyO aM aM_d aM_e aM_f aM_kept aM_found aM_tape aM_came aM_got aM_held aM_off aM_comesUp aM_comesDown aM_path aM_gets aM_gotNow aM_bitsOf aM_sizeOf aM_number aM_passing vM_isKept vM_taped vM_leaked vM_keptAll vM_offAll vM_up vM_down vM_sharesUp vM_sharesDown vM_onUp vM_onDown vM_great vM_triedOff vM_triedLeaked vM_triedKept vM_fitting vM_firstSet vM_inAll vM_inAny vM_at vM_sort vM_from vM_value vM_fault cM_d x1 u1 hu1) (cwV 1 hts gX8_loses_X8_isBasin rfl rfl rfl (by decide +kernel) ⟨Nat.le_of_ble_eq_true rfl, Nat.le_of_ble_eq_true rfl⟩) 0 [0, 1] [1, 2, 0, 0, 0, 0, 0, 0, 0, 0, 0, 0] [] (w_X8_loses cyI cyJ cyZ cyB cyO aM aM_d aM_found aM_path aM_comesUp aM_comesDown aM_f aM_came aM_got aM_held aM_off aM_gets aM_e aM_kept aM_tape aM_gotNow aM_bitsOf aM_sizeOf aM_number aM_passing vM_isKept vM_taped vM_leaked vM_keptAll vM_offAll vM_up vM_down vM_sharesUp vM_sharesDown vM_onUp vM_onDown vM_great vM_triedOff vM_triedLeaked vM_triedKept vM_fitting vM_firstSet vM_inAll vM_inAny vM_at vM_sort vM_from vM_value vM_fault cM_d cM_found cM_path cM_comesUp cM_comesDown cM_f cM_came cM_got cM_held cM_off cM_gets) rfl rfl rfl rfl rfl (by decide +kernel) rfl rfl (Nat.le_of_ble_eq_true rfl) ⟨Nat.zero_le _, Nat.zero_le _⟩ dX8_loses_2 (fun H locs hP hD hS => ?_)
  refine lv_if_eq (tgt := 20) hx hb dX8_loses_5 (by decide) (fun c2 => ?_) (fun c2 => ?_)
  · have h := br_pos c2 h
    refine lv_aload_n hx hb dX8_loses_20 rfl (lv_at hl 0 rfl) ?_
    refine lv_iconst (v := 0) hx hb dX8_loses_21 (by decide) ?_
    obtain ⟨u3, hu3, h⟩ := bd_some h
    refine cl_Vi (rest := []) F hK hP hD hS hA hl (t_X8_finds l D cyI cyJ cyZ cyB cyO aM aM_found aM_d aM_e aM_f aM_kept aM_tape aM_came aM_got aM_held aM_off aM_comesUp aM_comesDown aM_path aM_gets aM_gotNow aM_bitsOf aM_sizeOf aM_number aM_passing vM_isKept vM_taped vM_leaked vM_keptAll vM_offAll vM_up vM_down vM_sharesUp vM_sharesDown vM_onUp vM_onDown vM_great vM_triedOff vM_triedLeaked vM_triedKept vM_fitting vM_firstSet vM_inAll vM_inAny vM_at vM_sort vM_from vM_value vM_fault cM_found (0 : Int32) u3 hu3) (cwV 1 hts gX8_loses_X8_finds rfl rfl rfl (by decide +kernel) ⟨Nat.le_of_ble_eq_true rfl, Nat.le_of_ble_eq_true rfl⟩) 0 [0, 2] [1, 0, 2, 0, 0, 0, 0, 0, 0, 0, 0, 0] [] (w_X8_loses cyI cyJ cyZ cyB cyO aM aM_d aM_found aM_path aM_comesUp aM_comesDown aM_f aM_came aM_got aM_held aM_off aM_gets aM_e aM_kept aM_tape aM_gotNow aM_bitsOf aM_sizeOf aM_number aM_passing vM_isKept vM_taped vM_leaked vM_keptAll vM_offAll vM_up vM_down vM_sharesUp vM_sharesDown vM_onUp vM_onDown vM_great vM_triedOff vM_triedLeaked vM_triedKept vM_fitting vM_firstSet vM_inAll vM_inAny vM_at vM_sort vM_from vM_value vM_fault cM_d u3.2 cM_path cM_comesUp cM_comesDown cM_f cM_came cM_got cM_held cM_off cM_gets) rfl rfl rfl rfl rfl (by decide +kernel) rfl rfl (Nat.le_of_ble_eq_true rfl) ⟨Nat.zero_le _, Nat.zero_le _⟩ dX8_loses_22 (fun H locs hP hD hS => ?_)
    obtain rfl := Option.some.inj h
    exact hret _ _ _ _ _ hP hD hS dX8_loses_25 rfl rfl
  · have h := br_neg c2 h
    refine lv_iload_n hx hb dX8_loses_8 rfl (lv_at hl 2 rfl) ?_
    refine lv_i2l hx hb dX8_loses_9 rfl ?_
    refine lv_lconst (v := 1) hx hb dX8_loses_10 (by decide) ?_
    refine lv_ldc2 (v := 100) hx hb hown q1 dX8_loses_11 ?_
    obtain ⟨u4, hu4, h⟩ := bd_some h
    refine cl_Si (rest := []) F hK hP hD hS hA hl (t_X8_in l D cyI cyJ cyZ cyB cyO x2.toInt64 (1 : Int64) (100 : Int64) u4 hu4) (va_cwS 3 hts gX8_loses_X8_in rfl rfl rfl (by decide +kernel) ⟨Nat.le_of_ble_eq_true rfl, Nat.le_of_ble_eq_true rfl⟩) [] [0, 0, 0, 0, 0, 0, 0, 0, 0, 0, 0, 0] [] (w_X8_loses cyI cyJ cyZ cyB cyO aM aM_d aM_found aM_path aM_comesUp aM_comesDown aM_f aM_came aM_got aM_held aM_off aM_gets aM_e aM_kept aM_tape aM_gotNow aM_bitsOf aM_sizeOf aM_number aM_passing vM_isKept vM_taped vM_leaked vM_keptAll vM_offAll vM_up vM_down vM_sharesUp vM_sharesDown vM_onUp vM_onDown vM_great vM_triedOff vM_triedLeaked vM_triedKept vM_fitting vM_firstSet vM_inAll vM_inAny vM_at vM_sort vM_from vM_value vM_fault cM_d cM_found cM_path cM_comesUp cM_comesDown cM_f cM_came cM_got cM_held cM_off cM_gets) rfl rfl rfl (by decide +kernel) rfl rfl (Nat.le_of_ble_eq_true rfl) ⟨Nat.zero_le _, Nat.zero_le _⟩ dX8_loses_14 (fun H locs hP hD hS => ?_)
    refine lv_if_ne (tgt := 26) hx hb dX8_loses_17 (by decide) (fun c5 => ?_) (fun c5 => ?_)
    · have h := br_neg c5 h
      refine lv_aload_n hx hb dX8_loses_26 rfl (lv_at hl 0 rfl) ?_
      refine lv_iload_n hx hb dX8_loses_27 rfl (lv_at hl 2 rfl) ?_
      obtain ⟨u6, hu6, h⟩ := bd_some h
      refine cl_Vi (rest := []) F hK hP hD hS hA hl (t_X8_isLate l D cyI cyJ cyZ cyB cyO aM aM_d aM_e aM_f aM_kept aM_found aM_tape aM_came aM_got aM_held aM_off aM_comesUp aM_comesDown aM_path aM_gets aM_gotNow aM_bitsOf aM_sizeOf aM_number aM_passing vM_isKept vM_taped vM_leaked vM_keptAll vM_offAll vM_up vM_down vM_sharesUp vM_sharesDown vM_onUp vM_onDown vM_great vM_triedOff vM_triedLeaked vM_triedKept vM_fitting vM_firstSet vM_inAll vM_inAny vM_at vM_sort vM_from vM_value vM_fault cM_d x2 u6 hu6) (cwV 1 hts gX8_loses_X8_isLate rfl rfl rfl (by decide +kernel) ⟨Nat.le_of_ble_eq_true rfl, Nat.le_of_ble_eq_true rfl⟩) 0 [0, 1] [1, 2, 0, 0, 0, 0, 0, 0, 0, 0, 0, 0] [] (w_X8_loses cyI cyJ cyZ cyB cyO aM aM_d aM_found aM_path aM_comesUp aM_comesDown aM_f aM_came aM_got aM_held aM_off aM_gets aM_e aM_kept aM_tape aM_gotNow aM_bitsOf aM_sizeOf aM_number aM_passing vM_isKept vM_taped vM_leaked vM_keptAll vM_offAll vM_up vM_down vM_sharesUp vM_sharesDown vM_onUp vM_onDown vM_great vM_triedOff vM_triedLeaked vM_triedKept vM_fitting vM_firstSet vM_inAll vM_inAny vM_at vM_sort vM_from vM_value vM_fault cM_d cM_found cM_path cM_comesUp cM_comesDown cM_f cM_came cM_got cM_held cM_off cM_gets) rfl rfl rfl rfl rfl (by decide +kernel) rfl rfl (Nat.le_of_ble_eq_true rfl) ⟨Nat.zero_le _, Nat.zero_le _⟩ dX8_loses_28 (fun H locs hP hD hS => ?_)
      refine lv_if_eq (tgt := 40) hx hb dX8_loses_31 (by decide) (fun c7 => ?_) (fun c7 => ?_)
      · have h := br_pos c7 h
        refine lv_aload_n hx hb dX8_loses_40 rfl (lv_at hl 0 rfl) ?_
        refine lv_iload_n hx hb dX8_loses_41 rfl (lv_at hl 1 rfl) ?_
        obtain ⟨u8, hu8, h⟩ := bd_some h
        refine cl_Vi (rest := []) F hK hP hD hS hA hl (t_X8_isShare l D cyI cyJ cyZ cyB cyO aM aM_path aM_comesUp aM_comesDown aM_d aM_e aM_f aM_kept aM_found aM_tape aM_came aM_got aM_held aM_off aM_gets aM_gotNow aM_bitsOf aM_sizeOf aM_number aM_passing vM_isKept vM_taped vM_leaked vM_keptAll vM_offAll vM_up vM_down vM_sharesUp vM_sharesDown vM_onUp vM_onDown vM_great vM_triedOff vM_triedLeaked vM_triedKept vM_fitting vM_firstSet vM_inAll vM_inAny vM_at vM_sort vM_from vM_value vM_fault cM_path cM_comesUp cM_comesDown cM_d x1 u8 hu8) (cwV 1 hts gX8_loses_X8_isShare rfl rfl rfl (by decide +kernel) ⟨Nat.le_of_ble_eq_true rfl, Nat.le_of_ble_eq_true rfl⟩) 0 [0, 3, 4, 5, 1] [1, 5, 0, 2, 3, 4, 0, 0, 0, 0, 0, 0] [] (w_X8_loses cyI cyJ cyZ cyB cyO aM aM_d aM_found aM_path aM_comesUp aM_comesDown aM_f aM_came aM_got aM_held aM_off aM_gets aM_e aM_kept aM_tape aM_gotNow aM_bitsOf aM_sizeOf aM_number aM_passing vM_isKept vM_taped vM_leaked vM_keptAll vM_offAll u8.2.1 u8.2.2.1 u8.2.2.2.1 u8.2.2.2.2.1 u8.2.2.2.2.2.1 u8.2.2.2.2.2.2.1 u8.2.2.2.2.2.2.2.1 vM_triedOff vM_triedLeaked vM_triedKept vM_fitting vM_firstSet vM_inAll vM_inAny vM_at vM_sort vM_from vM_value vM_fault cM_d cM_found u8.2.2.2.2.2.2.2.2.1 u8.2.2.2.2.2.2.2.2.2.1 u8.2.2.2.2.2.2.2.2.2.2 cM_f cM_came cM_got cM_held cM_off cM_gets) rfl rfl rfl rfl rfl (by decide +kernel) rfl rfl (Nat.le_of_ble_eq_true rfl) ⟨Nat.zero_le _, Nat.zero_le _⟩ dX8_loses_42 (fun H locs hP hD hS => ?_)
        refine lv_if_ne (tgt := 55) hx hb dX8_loses_45 (by decide) (fun c9 => ?_) (fun c9 => ?_)
        · have h := br_neg c9 h
          refine lv_aload_n hx hb dX8_loses_55 rfl (lv_at hl 0 rfl) ?_
          refine lv_iload_n hx hb dX8_loses_56 rfl (lv_at hl 2 rfl) ?_
          obtain ⟨u10, hu10, h⟩ := bd_some h
          refine cl_Vv (rest := []) F hK hP hD hS hA hl (t_X8_tries l D cyI cyJ cyZ cyB cyO aM aM_d aM_f aM_came aM_got aM_held aM_off aM_gets aM_e aM_kept aM_found aM_tape aM_comesUp aM_comesDown aM_path aM_gotNow aM_bitsOf aM_sizeOf aM_number aM_passing vM_isKept vM_taped vM_leaked vM_keptAll vM_offAll u8.2.1 u8.2.2.1 u8.2.2.2.1 u8.2.2.2.2.1 u8.2.2.2.2.2.1 u8.2.2.2.2.2.2.1 u8.2.2.2.2.2.2.2.1 vM_triedOff vM_triedLeaked vM_triedKept vM_fitting vM_firstSet vM_inAll vM_inAny vM_at vM_sort vM_from vM_value vM_fault cM_d cM_f cM_came cM_got cM_held cM_off cM_gets x2 u10 hu10) (cwV 1 hts gX8_loses_X8_tries rfl rfl rfl (by decide +kernel) ⟨Nat.le_of_ble_eq_true rfl, Nat.le_of_ble_eq_true rfl⟩) 0 [0, 1, 6, 7, 8, 9, 10, 11] [1, 2, 0, 0, 0, 0, 3, 4, 5, 6, 7, 8] [] (w_X8_loses cyI cyJ cyZ cyB cyO aM aM_d aM_found aM_path aM_comesUp aM_comesDown aM_f aM_came aM_got aM_held aM_off aM_gets aM_e aM_kept aM_tape aM_gotNow aM_bitsOf aM_sizeOf aM_number aM_passing vM_isKept vM_taped u10.1 u10.2.1 u10.2.2.1 u8.2.1 u8.2.2.1 u8.2.2.2.1 u8.2.2.2.2.1 u8.2.2.2.2.2.1 u8.2.2.2.2.2.2.1 u8.2.2.2.2.2.2.2.1 u10.2.2.2.1 u10.2.2.2.2.1 u10.2.2.2.2.2.1 vM_fitting vM_firstSet vM_inAll vM_inAny vM_at vM_sort vM_from vM_value vM_fault u10.2.2.2.2.2.2.1 cM_found u8.2.2.2.2.2.2.2.2.1 u8.2.2.2.2.2.2.2.2.2.1 u8.2.2.2.2.2.2.2.2.2.2 u10.2.2.2.2.2.2.2.1 u10.2.2.2.2.2.2.2.2.1 u10.2.2.2.2.2.2.2.2.2.1 u10.2.2.2.2.2.2.2.2.2.2.1 u10.2.2.2.2.2.2.2.2.2.2.2.1 u10.2.2.2.2.2.2.2.2.2.2.2.2) rfl rfl rfl rfl rfl (by decide +kernel) rfl rfl (Nat.le_of_ble_eq_true rfl) ⟨Nat.zero_le _, Nat.zero_le _⟩ dX8_loses_57 (fun H locs hP hD hS => ?_)
          refine lv_aload_n hx hb dX8_loses_60 rfl (lv_at hl 0 rfl) ?_
          refine va_get (D := D) (ci := 7) (v := .long u8.2.2.2.1) (C := RX8) (T := TX8) (N := 43) hx hb hts in_X8 hown hK hP 0 rfl rfl 19 (by decide) q2 (fun _ h9 => h9) rfl dX8_loses_61 ?_
          refine lv_aload_n hx hb dX8_loses_64 rfl (lv_at hl 0 rfl) ?_
          refine va_get (D := D) (ci := 7) (v := .ref aM_d) (C := RX8) (T := TX8) (N := 43) hx hb hts in_X8 hown hK hP 0 rfl rfl 0 (by decide) q3 (fun _ h9 => h9) rfl dX8_loses_65 ?_
          refine lv_iconst (v := 3) hx hb dX8_loses_68 (by decide) ?_
          refine va_iald hx hb hK hP 1 0 rfl rfl (by unfold vp_in; decide) dX8_loses_69 ?_
          refine lv_iload_n hx hb dX8_loses_70 rfl (lv_at hl 2 rfl) ?_
          refine lv_imul hx hb dX8_loses_71 ?_
          refine lv_i2l hx hb dX8_loses_72 rfl ?_
          refine lv_lmul hx hb dX8_loses_73 ?_
          refine lv_aload_n hx hb dX8_loses_74 rfl (lv_at hl 0 rfl) ?_
          refine va_get (D := D) (ci := 7) (v := .long u8.2.2.2.2.1) (C := RX8) (T := TX8) (N := 43) hx hb hts in_X8 hown hK hP 0 rfl rfl 20 (by decide) q4 (fun _ h9 => h9) rfl dX8_loses_75 ?_
          obtain ⟨g11, h⟩ := gd_some h
          refine lv_ldiv hx hb dX8_loses_78 g11 ?_
          refine lv_l2i hx hb dX8_loses_79 rfl ?_
          refine lv_aload_n hx hb dX8_loses_80 rfl (lv_at hl 0 rfl) ?_
          refine va_get (D := D) (ci := 7) (v := .ref aM_gets) (C := RX8) (T := TX8) (N := 43) hx hb hts in_X8 hown hK hP 0 rfl rfl 25 (by decide) q5 (fun _ h9 => h9) rfl dX8_loses_81 ?_
          refine lv_iload_n hx hb dX8_loses_84 rfl (lv_at hl 1 rfl) ?_
          obtain ⟨g12, h⟩ := gd_some h
          refine va_iald hx hb hK hP 11 0 rfl rfl g12 dX8_loses_85 ?_
          refine lv_isub hx hb dX8_loses_86 ?_
          obtain rfl := Option.some.inj h
          exact hret _ _ _ _ _ hP hD hS dX8_loses_87 rfl rfl
        · have h := br_pos c9 h
          refine lv_aload_n hx hb dX8_loses_48 rfl (lv_at hl 0 rfl) ?_
          refine lv_bipush (v := 6) hx hb dX8_loses_49 (by decide) ?_
          obtain ⟨u13, hu13, h⟩ := bd_some h
          refine cl_Vi (rest := []) F hK hP hD hS hA hl (t_X8_finds l D cyI cyJ cyZ cyB cyO aM aM_found aM_d aM_e aM_f aM_kept aM_tape aM_came aM_got aM_held aM_off aM_comesUp aM_comesDown aM_path aM_gets aM_gotNow aM_bitsOf aM_sizeOf aM_number aM_passing vM_isKept vM_taped vM_leaked vM_keptAll vM_offAll u8.2.1 u8.2.2.1 u8.2.2.2.1 u8.2.2.2.2.1 u8.2.2.2.2.2.1 u8.2.2.2.2.2.2.1 u8.2.2.2.2.2.2.2.1 vM_triedOff vM_triedLeaked vM_triedKept vM_fitting vM_firstSet vM_inAll vM_inAny vM_at vM_sort vM_from vM_value vM_fault cM_found (6 : Int32) u13 hu13) (cwV 1 hts gX8_loses_X8_finds rfl rfl rfl (by decide +kernel) ⟨Nat.le_of_ble_eq_true rfl, Nat.le_of_ble_eq_true rfl⟩) 0 [0, 2] [1, 0, 2, 0, 0, 0, 0, 0, 0, 0, 0, 0] [] (w_X8_loses cyI cyJ cyZ cyB cyO aM aM_d aM_found aM_path aM_comesUp aM_comesDown aM_f aM_came aM_got aM_held aM_off aM_gets aM_e aM_kept aM_tape aM_gotNow aM_bitsOf aM_sizeOf aM_number aM_passing vM_isKept vM_taped vM_leaked vM_keptAll vM_offAll u8.2.1 u8.2.2.1 u8.2.2.2.1 u8.2.2.2.2.1 u8.2.2.2.2.2.1 u8.2.2.2.2.2.2.1 u8.2.2.2.2.2.2.2.1 vM_triedOff vM_triedLeaked vM_triedKept vM_fitting vM_firstSet vM_inAll vM_inAny vM_at vM_sort vM_from vM_value vM_fault cM_d u13.2 u8.2.2.2.2.2.2.2.2.1 u8.2.2.2.2.2.2.2.2.2.1 u8.2.2.2.2.2.2.2.2.2.2 cM_f cM_came cM_got cM_held cM_off cM_gets) rfl rfl rfl rfl rfl (by decide +kernel) rfl rfl (Nat.le_of_ble_eq_true rfl) ⟨Nat.zero_le _, Nat.zero_le _⟩ dX8_loses_51 (fun H locs hP hD hS => ?_)
          obtain rfl := Option.some.inj h
          exact hret _ _ _ _ _ hP hD hS dX8_loses_54 rfl rfl
      · have h := br_neg c7 h
        refine lv_aload_n hx hb dX8_loses_34 rfl (lv_at hl 0 rfl) ?_
        refine lv_iconst (v := 4) hx hb dX8_loses_35 (by decide) ?_
        obtain ⟨u14, hu14, h⟩ := bd_some h
        refine cl_Vi (rest := []) F hK hP hD hS hA hl (t_X8_finds l D cyI cyJ cyZ cyB cyO aM aM_found aM_d aM_e aM_f aM_kept aM_tape aM_came aM_got aM_held aM_off aM_comesUp aM_comesDown aM_path aM_gets aM_gotNow aM_bitsOf aM_sizeOf aM_number aM_passing vM_isKept vM_taped vM_leaked vM_keptAll vM_offAll vM_up vM_down vM_sharesUp vM_sharesDown vM_onUp vM_onDown vM_great vM_triedOff vM_triedLeaked vM_triedKept vM_fitting vM_firstSet vM_inAll vM_inAny vM_at vM_sort vM_from vM_value vM_fault cM_found (4 : Int32) u14 hu14) (cwV 1 hts gX8_loses_X8_finds rfl rfl rfl (by decide +kernel) ⟨Nat.le_of_ble_eq_true rfl, Nat.le_of_ble_eq_true rfl⟩) 0 [0, 2] [1, 0, 2, 0, 0, 0, 0, 0, 0, 0, 0, 0] [] (w_X8_loses cyI cyJ cyZ cyB cyO aM aM_d aM_found aM_path aM_comesUp aM_comesDown aM_f aM_came aM_got aM_held aM_off aM_gets aM_e aM_kept aM_tape aM_gotNow aM_bitsOf aM_sizeOf aM_number aM_passing vM_isKept vM_taped vM_leaked vM_keptAll vM_offAll vM_up vM_down vM_sharesUp vM_sharesDown vM_onUp vM_onDown vM_great vM_triedOff vM_triedLeaked vM_triedKept vM_fitting vM_firstSet vM_inAll vM_inAny vM_at vM_sort vM_from vM_value vM_fault cM_d u14.2 cM_path cM_comesUp cM_comesDown cM_f cM_came cM_got cM_held cM_off cM_gets) rfl rfl rfl rfl rfl (by decide +kernel) rfl rfl (Nat.le_of_ble_eq_true rfl) ⟨Nat.zero_le _, Nat.zero_le _⟩ dX8_loses_36 (fun H locs hP hD hS => ?_)
        obtain rfl := Option.some.inj h
        exact hret _ _ _ _ _ hP hD hS dX8_loses_39 rfl rfl
    · have h := br_pos c5 h
      refine lv_aload_n hx hb dX8_loses_20 rfl (lv_at hl 0 rfl) ?_
      refine lv_iconst (v := 0) hx hb dX8_loses_21 (by decide) ?_
      obtain ⟨u15, hu15, h⟩ := bd_some h
      refine cl_Vi (rest := []) F hK hP hD hS hA hl (t_X8_finds l D cyI cyJ cyZ cyB cyO aM aM_found aM_d aM_e aM_f aM_kept aM_tape aM_came aM_got aM_held aM_off aM_comesUp aM_comesDown aM_path aM_gets aM_gotNow aM_bitsOf aM_sizeOf aM_number aM_passing vM_isKept vM_taped vM_leaked vM_keptAll vM_offAll vM_up vM_down vM_sharesUp vM_sharesDown vM_onUp vM_onDown vM_great vM_triedOff vM_triedLeaked vM_triedKept vM_fitting vM_firstSet vM_inAll vM_inAny vM_at vM_sort vM_from vM_value vM_fault cM_found (0 : Int32) u15 hu15) (cwV 1 hts gX8_loses_X8_finds rfl rfl rfl (by decide +kernel) ⟨Nat.le_of_ble_eq_true rfl, Nat.le_of_ble_eq_true rfl⟩) 0 [0, 2] [1, 0, 2, 0, 0, 0, 0, 0, 0, 0, 0, 0] [] (w_X8_loses cyI cyJ cyZ cyB cyO aM aM_d aM_found aM_path aM_comesUp aM_comesDown aM_f aM_came aM_got aM_held aM_off aM_gets aM_e aM_kept aM_tape aM_gotNow aM_bitsOf aM_sizeOf aM_number aM_passing vM_isKept vM_taped vM_leaked vM_keptAll vM_offAll vM_up vM_down vM_sharesUp vM_sharesDown vM_onUp vM_onDown vM_great vM_triedOff vM_triedLeaked vM_triedKept vM_fitting vM_firstSet vM_inAll vM_inAny vM_at vM_sort vM_from vM_value vM_fault cM_d u15.2 cM_path cM_comesUp cM_comesDown cM_f cM_came cM_got cM_held cM_off cM_gets) rfl rfl rfl rfl rfl (by decide +kernel) rfl rfl (Nat.le_of_ble_eq_true rfl) ⟨Nat.zero_le _, Nat.zero_le _⟩ dX8_loses_22 (fun H locs hP hD hS => ?_)
      obtain rfl := Option.some.inj h
      exact hret _ _ _ _ _ hP hD hS dX8_loses_25 rfl rfl
/-! ===== X8_why ===== -/
def w_X8_why (cyI cyJ cyZ cyB cyO : ClassId) (aM aM_d aM_e aM_f aM_kept aM_found aM_tape aM_came aM_got aM_held aM_off aM_comesUp aM_comesDown aM_path aM_gets aM_gotNow aM_bitsOf aM_sizeOf aM_number aM_passing : Nat) (vM_isKept : Int32) (vM_taped : Int32) (vM_leaked : Int32) (vM_keptAll : Int32) (vM_offAll : Int32) (vM_up : Int64) (vM_down : Int64) (vM_sharesUp : Int64) (vM_sharesDown : Int64) (vM_onUp : Int64) (vM_onDown : Int64) (vM_great : Int32) (vM_triedOff : Int32) (vM_triedLeaked : Int32) (vM_triedKept : Int32) (vM_fitting : Int32) (vM_firstSet : Int32) (vM_inAll : Int32) (vM_inAny : Int32) (vM_at : Int32) (vM_sort : Int32) (vM_from : Int32) (vM_value : Int64) (vM_fault : Int32) (cM_d : Nat → Int32) : va_W := [(aM, .inr (7, [.ref aM_d, .ref aM_e, .ref aM_f, .ref aM_kept, .int vM_isKept, .ref aM_found, .ref aM_tape, .int vM_taped, .ref aM_came, .ref aM_got, .ref aM_held, .ref aM_off, .int vM_leaked, .int vM_keptAll, .int vM_offAll, .ref aM_comesUp, .ref aM_comesDown, .long vM_up, .long vM_down, .long vM_sharesUp, .long vM_sharesDown, .long vM_onUp, .long vM_onDown, .int vM_great, .ref aM_path, .ref aM_gets, .int vM_triedOff, .int vM_triedLeaked, .int vM_triedKept, .ref aM_gotNow, .int vM_fitting, .int vM_firstSet, .int vM_inAll, .int vM_inAny, .int vM_at, .int vM_sort, .int vM_from, .long vM_value, .int vM_fault, .ref aM_bitsOf, .ref aM_sizeOf, .ref aM_number, .ref aM_passing])), (aM_d, .inl (cyI, 64, .inl cM_d))]
set_option maxHeartbeats 4000000 in
set_option maxRecDepth 100000 in
theorem t_X8_why (l : Launch) (D : va_G) (cyI cyJ cyZ cyB cyO : ClassId) (aM aM_d aM_e aM_f aM_kept aM_found aM_tape aM_came aM_got aM_held aM_off aM_comesUp aM_comesDown aM_path aM_gets aM_gotNow aM_bitsOf aM_sizeOf aM_number aM_passing : Nat) (vM_isKept : Int32) (vM_taped : Int32) (vM_leaked : Int32) (vM_keptAll : Int32) (vM_offAll : Int32) (vM_up : Int64) (vM_down : Int64) (vM_sharesUp : Int64) (vM_sharesDown : Int64) (vM_onUp : Int64) (vM_onDown : Int64) (vM_great : Int32) (vM_triedOff : Int32) (vM_triedLeaked : Int32) (vM_triedKept : Int32) (vM_fitting : Int32) (vM_firstSet : Int32) (vM_inAll : Int32) (vM_inAny : Int32) (vM_at : Int32) (vM_sort : Int32) (vM_from : Int32) (vM_value : Int64) (vM_fault : Int32) (cM_d : Nat → Int32) (x1 : Int32) (x2 : Int32) (x3 : Int32) (out : Int32) (h : f_X8_why x1 x2 x3 cM_d = some out) : Mi l yX8_why wsX8_why ({ frames := 2, cells := 0, slots := 0, locals := 46 } : Room) D (tyA cyI cyJ cyZ cyB cyO) [.ref aM, .int x1, .int x2, .int x3] (w_X8_why cyI cyJ cyZ cyB cyO aM aM_d aM_e aM_f aM_kept aM_found aM_tape aM_came aM_got aM_held aM_off aM_comesUp aM_comesDown aM_path aM_gets aM_gotNow aM_bitsOf aM_sizeOf aM_number aM_passing vM_isKept vM_taped vM_leaked vM_keptAll vM_offAll vM_up vM_down vM_sharesUp vM_sharesDown vM_onUp vM_onDown vM_great vM_triedOff vM_triedLeaked vM_triedKept vM_fitting vM_firstSet vM_inAll vM_inAny vM_at vM_sort vM_from vM_value vM_fault cM_d) (w_X8_why cyI cyJ cyZ cyB cyO aM aM_d aM_e aM_f aM_kept aM_found aM_tape aM_came aM_got aM_held aM_off aM_comesUp aM_comesDown aM_path aM_gets aM_gotNow aM_bitsOf aM_sizeOf aM_number aM_passing vM_isKept vM_taped vM_leaked vM_keptAll vM_offAll vM_up vM_down vM_sharesUp vM_sharesDown vM_onUp vM_onDown vM_great vM_triedOff vM_triedLeaked vM_triedKept vM_fitting vM_firstSet vM_inAll vM_inAny vM_at vM_sort vM_from vM_value vM_fault cM_d) out := by
  refine Mi.mk (cc := cX8_why) (maxL := 4) (rt := .int) (own := RX8) (by decide) rfl rfl (Nat.le_of_ble_eq_true rfl) ?_
  intro p e s m args below meth c A Q F hK hP hD hA hret ls hl
  obtain ⟨hx, hb, hml, hown, hts⟩ := id F
  have hS : va_S A s.heap s.heap [] := va_S.rf
  have hl : lv_has ls 4 [(0, .ref aM), (1, .int x1), (2, .int x2), (3, .int x3)] := hl
  have q2 := hts (Cond.methodLink RX8 109 yX8_isBasin) (List.mem_of_getElem? (i := 2) rfl)
  have q1 := hts (Cond.constantLong RX8 227 (60)) (List.mem_of_getElem? (i := 1) rfl)
  have q8 := hts (Cond.methodLink RX8 70 yX8_in) (List.mem_of_getElem? (i := 8) rfl)
  have q11 := hts (Cond.methodLink RX8 206 yX8_isLate) (List.mem_of_getElem? (i := 11) rfl)
  unfold f_X8_why at h
  refine lv_aload_n hx hb dX8_why_0 rfl (lv_at hl 0 rfl) ?_
  refine lv_iload_n hx hb dX8_why_1 rfl (lv_at hl 1 rfl) ?_
  obtain ⟨u1, hu1, h⟩ := bd_some h
  refine cl_Vi (rest := []) F hK hP hD hS hA hl (t_X8_isBasin l D cyI cyJ cyZ cyB cyO aM aM_d aM_e aM_f aM_kept aM_found aM_tape aM_came aM_got aM_held aM_off aM_comesUp aM_comesDown aM_path aM_gets aM_gotNow aM_bitsOf aM_sizeOf aM_number aM_passing vM_isKept vM_taped vM_leaked vM_keptAll vM_offAll vM_up vM_down vM_sharesUp vM_sharesDown vM_onUp vM_onDown vM_great vM_triedOff vM_triedLeaked vM_triedKept vM_fitting vM_firstSet vM_inAll vM_inAny vM_at vM_sort vM_from vM_value vM_fault cM_d x1 u1 hu1) (cwV 1 hts gX8_why_X8_isBasin rfl rfl rfl (by decide +kernel) ⟨Nat.le_of_ble_eq_true rfl, Nat.le_of_ble_eq_true rfl⟩) 0 [0, 1] [1, 2] [] (w_X8_why cyI cyJ cyZ cyB cyO aM aM_d aM_e aM_f aM_kept aM_found aM_tape aM_came aM_got aM_held aM_off aM_comesUp aM_comesDown aM_path aM_gets aM_gotNow aM_bitsOf aM_sizeOf aM_number aM_passing vM_isKept vM_taped vM_leaked vM_keptAll vM_offAll vM_up vM_down vM_sharesUp vM_sharesDown vM_onUp vM_onDown vM_great vM_triedOff vM_triedLeaked vM_triedKept vM_fitting vM_firstSet vM_inAll vM_inAny vM_at vM_sort vM_from vM_value vM_fault cM_d) rfl rfl rfl rfl rfl (by decide +kernel) rfl rfl (Nat.le_of_ble_eq_true rfl) ⟨Nat.zero_le _, Nat.zero_le _⟩ dX8_why_2 (fun H locs hP hD hS => ?_)
  refine lv_if_eq (tgt := 25) hx hb dX8_why_5 (by decide) (fun c2 => ?_) (fun c2 => ?_)
  · have h := br_pos c2 h
    refine lv_iconst (v := 0) hx hb dX8_why_25 (by decide) ?_
    obtain rfl := Option.some.inj h
    exact hret _ _ _ _ _ hP hD hS dX8_why_26 rfl rfl
  · have h := br_neg c2 h
    refine lv_iload_n hx hb dX8_why_8 rfl (lv_at hl 1 rfl) ?_
    refine lv_iload_n hx hb dX8_why_9 rfl (lv_at hl 3 rfl) ?_
    refine lv_icmp_lt (tgt := 25) hx hb dX8_why_10 (by decide) (fun c3 => ?_) (fun c3 => ?_)
    · have h := br_pos c3 h
      refine lv_iconst (v := 0) hx hb dX8_why_25 (by decide) ?_
      obtain rfl := Option.some.inj h
      exact hret _ _ _ _ _ hP hD hS dX8_why_26 rfl rfl
    · have h := br_neg c3 h
      refine lv_iload_n hx hb dX8_why_13 rfl (lv_at hl 2 rfl) ?_
      refine lv_i2l hx hb dX8_why_14 rfl ?_
      refine lv_lconst (v := 1) hx hb dX8_why_15 (by decide) ?_
      refine lv_ldc2 (v := 60) hx hb hown q1 dX8_why_16 ?_
      obtain ⟨u4, hu4, h⟩ := bd_some h
      refine cl_Si (rest := []) F hK hP hD hS hA hl (t_X8_in l D cyI cyJ cyZ cyB cyO x2.toInt64 (1 : Int64) (60 : Int64) u4 hu4) (va_cwS 3 hts gX8_why_X8_in rfl rfl rfl (by decide +kernel) ⟨Nat.le_of_ble_eq_true rfl, Nat.le_of_ble_eq_true rfl⟩) [] [0, 0] [] (w_X8_why cyI cyJ cyZ cyB cyO aM aM_d aM_e aM_f aM_kept aM_found aM_tape aM_came aM_got aM_held aM_off aM_comesUp aM_comesDown aM_path aM_gets aM_gotNow aM_bitsOf aM_sizeOf aM_number aM_passing vM_isKept vM_taped vM_leaked vM_keptAll vM_offAll vM_up vM_down vM_sharesUp vM_sharesDown vM_onUp vM_onDown vM_great vM_triedOff vM_triedLeaked vM_triedKept vM_fitting vM_firstSet vM_inAll vM_inAny vM_at vM_sort vM_from vM_value vM_fault cM_d) rfl rfl rfl (by decide +kernel) rfl rfl (Nat.le_of_ble_eq_true rfl) ⟨Nat.zero_le _, Nat.zero_le _⟩ dX8_why_19 (fun H locs hP hD hS => ?_)
      refine lv_if_ne (tgt := 27) hx hb dX8_why_22 (by decide) (fun c5 => ?_) (fun c5 => ?_)
      · have h := br_neg c5 h
        refine lv_aload_n hx hb dX8_why_27 rfl (lv_at hl 0 rfl) ?_
        refine lv_iload_n hx hb dX8_why_28 rfl (lv_at hl 2 rfl) ?_
        obtain ⟨u6, hu6, h⟩ := bd_some h
        refine cl_Vi (rest := []) F hK hP hD hS hA hl (t_X8_isLate l D cyI cyJ cyZ cyB cyO aM aM_d aM_e aM_f aM_kept aM_found aM_tape aM_came aM_got aM_held aM_off aM_comesUp aM_comesDown aM_path aM_gets aM_gotNow aM_bitsOf aM_sizeOf aM_number aM_passing vM_isKept vM_taped vM_leaked vM_keptAll vM_offAll vM_up vM_down vM_sharesUp vM_sharesDown vM_onUp vM_onDown vM_great vM_triedOff vM_triedLeaked vM_triedKept vM_fitting vM_firstSet vM_inAll vM_inAny vM_at vM_sort vM_from vM_value vM_fault cM_d x2 u6 hu6) (cwV 1 hts gX8_why_X8_isLate rfl rfl rfl (by decide +kernel) ⟨Nat.le_of_ble_eq_true rfl, Nat.le_of_ble_eq_true rfl⟩) 0 [0, 1] [1, 2] [] (w_X8_why cyI cyJ cyZ cyB cyO aM aM_d aM_e aM_f aM_kept aM_found aM_tape aM_came aM_got aM_held aM_off aM_comesUp aM_comesDown aM_path aM_gets aM_gotNow aM_bitsOf aM_sizeOf aM_number aM_passing vM_isKept vM_taped vM_leaked vM_keptAll vM_offAll vM_up vM_down vM_sharesUp vM_sharesDown vM_onUp vM_onDown vM_great vM_triedOff vM_triedLeaked vM_triedKept vM_fitting vM_firstSet vM_inAll vM_inAny vM_at vM_sort vM_from vM_value vM_fault cM_d) rfl rfl rfl rfl rfl (by decide +kernel) rfl rfl (Nat.le_of_ble_eq_true rfl) ⟨Nat.zero_le _, Nat.zero_le _⟩ dX8_why_29 (fun H locs hP hD hS => ?_)
        refine lv_if_eq (tgt := 39) hx hb dX8_why_32 (by decide) (fun c7 => ?_) (fun c7 => ?_)
        · have h := br_pos c7 h
          refine lv_iconst (v := -1) hx hb dX8_why_39 (by decide) ?_
          obtain rfl := Option.some.inj h
          exact hret _ _ _ _ _ hP hD hS dX8_why_40 rfl rfl
        · have h := br_neg c7 h
          refine lv_iconst (v := 4) hx hb dX8_why_35 (by decide) ?_
          refine lv_goto (tgt := 40) hx hb dX8_why_36 (by decide) ?_
          obtain rfl := Option.some.inj h
          exact hret _ _ _ _ _ hP hD hS dX8_why_40 rfl rfl
      · have h := br_pos c5 h
        refine lv_iconst (v := 0) hx hb dX8_why_25 (by decide) ?_
        obtain rfl := Option.some.inj h
        exact hret _ _ _ _ _ hP hD hS dX8_why_26 rfl rfl
/-! ===== X8_whyHours ===== -/
def w_X8_whyHours (cyI cyJ cyZ cyB cyO : ClassId) (aM aM_d aM_e aM_f aM_kept aM_found aM_tape aM_came aM_got aM_held aM_off aM_comesUp aM_comesDown aM_path aM_gets aM_gotNow aM_bitsOf aM_sizeOf aM_number aM_passing : Nat) (vM_isKept : Int32) (vM_taped : Int32) (vM_leaked : Int32) (vM_keptAll : Int32) (vM_offAll : Int32) (vM_up : Int64) (vM_down : Int64) (vM_sharesUp : Int64) (vM_sharesDown : Int64) (vM_onUp : Int64) (vM_onDown : Int64) (vM_great : Int32) (vM_triedOff : Int32) (vM_triedLeaked : Int32) (vM_triedKept : Int32) (vM_fitting : Int32) (vM_firstSet : Int32) (vM_inAll : Int32) (vM_inAny : Int32) (vM_at : Int32) (vM_sort : Int32) (vM_from : Int32) (vM_value : Int64) (vM_fault : Int32) (cM_d : Nat → Int32) : va_W := [(aM, .inr (7, [.ref aM_d, .ref aM_e, .ref aM_f, .ref aM_kept, .int vM_isKept, .ref aM_found, .ref aM_tape, .int vM_taped, .ref aM_came, .ref aM_got, .ref aM_held, .ref aM_off, .int vM_leaked, .int vM_keptAll, .int vM_offAll, .ref aM_comesUp, .ref aM_comesDown, .long vM_up, .long vM_down, .long vM_sharesUp, .long vM_sharesDown, .long vM_onUp, .long vM_onDown, .int vM_great, .ref aM_path, .ref aM_gets, .int vM_triedOff, .int vM_triedLeaked, .int vM_triedKept, .ref aM_gotNow, .int vM_fitting, .int vM_firstSet, .int vM_inAll, .int vM_inAny, .int vM_at, .int vM_sort, .int vM_from, .long vM_value, .int vM_fault, .ref aM_bitsOf, .ref aM_sizeOf, .ref aM_number, .ref aM_passing])), (aM_d, .inl (cyI, 64, .inl cM_d))]
set_option maxHeartbeats 4000000 in
set_option maxRecDepth 100000 in
theorem t_X8_whyHours (l : Launch) (D : va_G) (cyI cyJ cyZ cyB cyO : ClassId) (aM aM_d aM_e aM_f aM_kept aM_found aM_tape aM_came aM_got aM_held aM_off aM_comesUp aM_comesDown aM_path aM_gets aM_gotNow aM_bitsOf aM_sizeOf aM_number aM_passing : Nat) (vM_isKept : Int32) (vM_taped : Int32) (vM_leaked : Int32) (vM_keptAll : Int32) (vM_offAll : Int32) (vM_up : Int64) (vM_down : Int64) (vM_sharesUp : Int64) (vM_sharesDown : Int64) (vM_onUp : Int64) (vM_onDown : Int64) (vM_great : Int32) (vM_triedOff : Int32) (vM_triedLeaked : Int32) (vM_triedKept : Int32) (vM_fitting : Int32) (vM_firstSet : Int32) (vM_inAll : Int32) (vM_inAny : Int32) (vM_at : Int32) (vM_sort : Int32) (vM_from : Int32) (vM_value : Int64) (vM_fault : Int32) (cM_d : Nat → Int32) (x1 : Int32) (out : Int32) (h : f_X8_whyHours x1 cM_d = some out) : Mi l yX8_whyHours wsX8_whyHours ({ frames := 1, cells := 0, slots := 0, locals := 25 } : Room) D (tyA cyI cyJ cyZ cyB cyO) [.ref aM, .int x1] (w_X8_whyHours cyI cyJ cyZ cyB cyO aM aM_d aM_e aM_f aM_kept aM_found aM_tape aM_came aM_got aM_held aM_off aM_comesUp aM_comesDown aM_path aM_gets aM_gotNow aM_bitsOf aM_sizeOf aM_number aM_passing vM_isKept vM_taped vM_leaked vM_keptAll vM_offAll vM_up vM_down vM_sharesUp vM_sharesDown vM_onUp vM_onDown vM_great vM_triedOff vM_triedLeaked vM_triedKept vM_fitting vM_firstSet vM_inAll vM_inAny vM_at vM_sort vM_from vM_value vM_fault cM_d) (w_X8_whyHours cyI cyJ cyZ cyB cyO aM aM_d aM_e aM_f aM_kept aM_found aM_tape aM_came aM_got aM_held aM_off aM_comesUp aM_comesDown aM_path aM_gets aM_gotNow aM_bitsOf aM_sizeOf aM_number aM_passing vM_isKept vM_taped vM_leaked vM_keptAll vM_offAll vM_up vM_down vM_sharesUp vM_sharesDown vM_onUp vM_onDown vM_great vM_triedOff vM_triedLeaked vM_triedKept vM_fitting vM_firstSet vM_inAll vM_inAny vM_at vM_sort vM_from vM_value vM_fault cM_d) out := by
  refine Mi.mk (cc := cX8_whyHours) (maxL := 2) (rt := .int) (own := RX8) (by decide) rfl rfl (Nat.le_of_ble_eq_true rfl) ?_
  intro p e s m args below meth c A Q F hK hP hD hA hret ls hl
  obtain ⟨hx, hb, hml, hown, hts⟩ := id F
  have hS : va_S A s.heap s.heap [] := va_S.rf
  have hl : lv_has ls 2 [(0, .ref aM), (1, .int x1)] := hl
  have q1 := hts (Cond.constantLong RX8 227 (60)) (List.mem_of_getElem? (i := 1) rfl)
  have q2 := hts (Cond.methodLink RX8 70 yX8_in) (List.mem_of_getElem? (i := 2) rfl)
  have q6 := hts (Cond.methodLink RX8 206 yX8_isLate) (List.mem_of_getElem? (i := 6) rfl)
  unfold f_X8_whyHours at h
  refine lv_iload_n hx hb dX8_whyHours_0 rfl (lv_at hl 1 rfl) ?_
  refine lv_i2l hx hb dX8_whyHours_1 rfl ?_
  refine lv_lconst (v := 1) hx hb dX8_whyHours_2 (by decide) ?_
  refine lv_ldc2 (v := 60) hx hb hown q1 dX8_whyHours_3 ?_
  obtain ⟨u1, hu1, h⟩ := bd_some h
  refine cl_Si (rest := []) F hK hP hD hS hA hl (t_X8_in l D cyI cyJ cyZ cyB cyO x1.toInt64 (1 : Int64) (60 : Int64) u1 hu1) (va_cwS 3 hts gX8_whyHours_X8_in rfl rfl rfl (by decide +kernel) ⟨Nat.le_of_ble_eq_true rfl, Nat.le_of_ble_eq_true rfl⟩) [] [0, 0] [] (w_X8_whyHours cyI cyJ cyZ cyB cyO aM aM_d aM_e aM_f aM_kept aM_found aM_tape aM_came aM_got aM_held aM_off aM_comesUp aM_comesDown aM_path aM_gets aM_gotNow aM_bitsOf aM_sizeOf aM_number aM_passing vM_isKept vM_taped vM_leaked vM_keptAll vM_offAll vM_up vM_down vM_sharesUp vM_sharesDown vM_onUp vM_onDown vM_great vM_triedOff vM_triedLeaked vM_triedKept vM_fitting vM_firstSet vM_inAll vM_inAny vM_at vM_sort vM_from vM_value vM_fault cM_d) rfl rfl rfl (by decide +kernel) rfl rfl (Nat.le_of_ble_eq_true rfl) ⟨Nat.zero_le _, Nat.zero_le _⟩ dX8_whyHours_6 (fun H locs hP hD hS => ?_)
  refine lv_if_ne (tgt := 16) hx hb dX8_whyHours_9 (by decide) (fun c2 => ?_) (fun c2 => ?_)
  · have h := br_neg c2 h
    refine lv_aload_n hx hb dX8_whyHours_16 rfl (lv_at hl 0 rfl) ?_
    refine lv_iload_n hx hb dX8_whyHours_17 rfl (lv_at hl 1 rfl) ?_
    obtain ⟨u3, hu3, h⟩ := bd_some h
    refine cl_Vi (rest := []) F hK hP hD hS hA hl (t_X8_isLate l D cyI cyJ cyZ cyB cyO aM aM_d aM_e aM_f aM_kept aM_found aM_tape aM_came aM_got aM_held aM_off aM_comesUp aM_comesDown aM_path aM_gets aM_gotNow aM_bitsOf aM_sizeOf aM_number aM_passing vM_isKept vM_taped vM_leaked vM_keptAll vM_offAll vM_up vM_down vM_sharesUp vM_sharesDown vM_onUp vM_onDown vM_great vM_triedOff vM_triedLeaked vM_triedKept vM_fitting vM_firstSet vM_inAll vM_inAny vM_at vM_sort vM_from vM_value vM_fault cM_d x1 u3 hu3) (cwV 1 hts gX8_whyHours_X8_isLate rfl rfl rfl (by decide +kernel) ⟨Nat.le_of_ble_eq_true rfl, Nat.le_of_ble_eq_true rfl⟩) 0 [0, 1] [1, 2] [] (w_X8_whyHours cyI cyJ cyZ cyB cyO aM aM_d aM_e aM_f aM_kept aM_found aM_tape aM_came aM_got aM_held aM_off aM_comesUp aM_comesDown aM_path aM_gets aM_gotNow aM_bitsOf aM_sizeOf aM_number aM_passing vM_isKept vM_taped vM_leaked vM_keptAll vM_offAll vM_up vM_down vM_sharesUp vM_sharesDown vM_onUp vM_onDown vM_great vM_triedOff vM_triedLeaked vM_triedKept vM_fitting vM_firstSet vM_inAll vM_inAny vM_at vM_sort vM_from vM_value vM_fault cM_d) rfl rfl rfl rfl rfl (by decide +kernel) rfl rfl (Nat.le_of_ble_eq_true rfl) ⟨Nat.zero_le _, Nat.zero_le _⟩ dX8_whyHours_18 (fun H locs hP hD hS => ?_)
    refine lv_if_eq (tgt := 28) hx hb dX8_whyHours_21 (by decide) (fun c4 => ?_) (fun c4 => ?_)
    · have h := br_pos c4 h
      refine lv_iconst (v := -1) hx hb dX8_whyHours_28 (by decide) ?_
      obtain rfl := Option.some.inj h
      exact hret _ _ _ _ _ hP hD hS dX8_whyHours_29 rfl rfl
    · have h := br_neg c4 h
      refine lv_iconst (v := 4) hx hb dX8_whyHours_24 (by decide) ?_
      refine lv_goto (tgt := 29) hx hb dX8_whyHours_25 (by decide) ?_
      obtain rfl := Option.some.inj h
      exact hret _ _ _ _ _ hP hD hS dX8_whyHours_29 rfl rfl
  · have h := br_pos c2 h
    refine lv_iconst (v := 0) hx hb dX8_whyHours_12 (by decide) ?_
    refine lv_goto (tgt := 29) hx hb dX8_whyHours_13 (by decide) ?_
    obtain rfl := Option.some.inj h
    exact hret _ _ _ _ _ hP hD hS dX8_whyHours_29 rfl rfl
