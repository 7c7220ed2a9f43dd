/-! ===== X8_bestOf ===== -/
def w_X8_bestOf (cyI cyJ cyZ cyB cyO : ClassId) (aM aM_d aM_f aM_came aM_got aM_held aM_off aM_gets aM_e aM_kept aM_found aM_tape aM_comesUp aM_comesDown aM_path aM_gotNow aM_bitsOf aM_sizeOf aM_number aM_passing : Nat) (vM_isKept : Int32) (vM_taped : Int32) (vM_leaked : Int32) (vM_keptAll : Int32) (vM_offAll : Int32) (vM_up : Int64) (vM_down : Int64) (vM_sharesUp : Int64) (vM_sharesDown : Int64) (vM_onUp : Int64) (vM_onDown : Int64) (vM_great : Int32) (vM_triedOff : Int32) (vM_triedLeaked : Int32) (vM_triedKept : Int32) (vM_fitting : Int32) (vM_firstSet : Int32) (vM_inAll : Int32) (vM_inAny : Int32) (vM_at : Int32) (vM_sort : Int32) (vM_from : Int32) (vM_value : Int64) (vM_fault : Int32) (cM_d : Nat → Int32) (cM_f : Nat → Int32) (cM_came : Nat → Int32) (cM_got : Nat → Int32) (cM_held : Nat → Int32) (cM_off : Nat → Int32) (cM_gets : Nat → Int32) : va_W := [(aM, .inr (7, [.ref aM_d, .ref aM_e, .ref aM_f, .ref aM_kept, .int vM_isKept, .ref aM_found, .ref aM_tape, .int vM_taped, .ref aM_came, .ref aM_got, .ref aM_held, .ref aM_off, .int vM_leaked, .int vM_keptAll, .int vM_offAll, .ref aM_comesUp, .ref aM_comesDown, .long vM_up, .long vM_down, .long vM_sharesUp, .long vM_sharesDown, .long vM_onUp, .long vM_onDown, .int vM_great, .ref aM_path, .ref aM_gets, .int vM_triedOff, .int vM_triedLeaked, .int vM_triedKept, .ref aM_gotNow, .int vM_fitting, .int vM_firstSet, .int vM_inAll, .int vM_inAny, .int vM_at, .int vM_sort, .int vM_from, .long vM_value, .int vM_fault, .ref aM_bitsOf, .ref aM_sizeOf, .ref aM_number, .ref aM_passing])), (aM_d, .inl (cyI, 64, .inl cM_d)), (aM_f, .inl (cyI, 64, .inl cM_f)), (aM_came, .inl (cyI, 10, .inl cM_came)), (aM_got, .inl (cyI, 10, .inl cM_got)), (aM_held, .inl (cyI, 10, .inl cM_held)), (aM_off, .inl (cyI, 10, .inl cM_off)), (aM_gets, .inl (cyI, 10, .inl cM_gets))]
set_option maxHeartbeats 4000000 in
set_option maxRecDepth 100000 in
theorem t_X8_bestOf (l : Launch) (D : va_G) (cyI cyJ cyZ cyB cyO : ClassId) (aM aM_d aM_f aM_came aM_got aM_held aM_off aM_gets aM_e aM_kept aM_found aM_tape aM_comesUp aM_comesDown aM_path aM_gotNow aM_bitsOf aM_sizeOf aM_number aM_passing : Nat) (vM_isKept : Int32) (vM_taped : Int32) (vM_leaked : Int32) (vM_keptAll : Int32) (vM_offAll : Int32) (vM_up : Int64) (vM_down : Int64) (vM_sharesUp : Int64) (vM_sharesDown : Int64) (vM_onUp : Int64) (vM_onDown : Int64) (vM_great : Int32) (vM_triedOff : Int32) (vM_triedLeaked : Int32) (vM_triedKept : Int32) (vM_fitting : Int32) (vM_firstSet : Int32) (vM_inAll : Int32) (vM_inAny : Int32) (vM_at : Int32) (vM_sort : Int32) (vM_from : Int32) (vM_value : Int64) (vM_fault : Int32) (cM_d : Nat → Int32) (cM_f : Nat → Int32) (cM_came : Nat → Int32) (cM_got : Nat → Int32) (cM_held : Nat → Int32) (cM_off : Nat → Int32) (cM_gets : Nat → Int32) (x1 : Int32) (x2 : Int32) (x3 : Int32) (x4 : Int32) (x5 : Int32) (out : Int32 × Int32 × Int32 × Int32 × Int32 × Int32 × Int32 × (Nat → Int32) × (Nat → Int32) × (Nat → Int32) × (Nat → Int32) × (Nat → Int32) × (Nat → Int32) × (Nat → Int32)) (h : f_X8_bestOf x1 x2 x3 x4 x5 vM_leaked vM_keptAll vM_offAll vM_triedOff vM_triedLeaked vM_triedKept cM_d cM_f cM_came cM_got cM_held cM_off cM_gets = some out) : Mi l yX8_bestOf wsX8_bestOf ({ frames := 5, cells := 0, slots := 0, locals := 118 } : Room) D (tyA cyI cyJ cyZ cyB cyO) [.ref aM, .int x1, .int x2, .int x3, .int x4, .int x5] (w_X8_bestOf cyI cyJ cyZ cyB cyO aM aM_d aM_f aM_came aM_got aM_held aM_off aM_gets aM_e aM_kept aM_found aM_tape aM_comesUp aM_comesDown aM_path aM_gotNow aM_bitsOf aM_sizeOf aM_number aM_passing vM_isKept vM_taped vM_leaked vM_keptAll vM_offAll vM_up vM_down vM_sharesUp vM_sharesDown vM_onUp vM_onDown vM_great vM_triedOff vM_triedLeaked vM_triedKept vM_fitting vM_firstSet vM_inAll vM_inAny vM_at vM_sort vM_from vM_value vM_fault cM_d cM_f cM_came cM_got cM_held cM_off cM_gets) (w_X8_bestOf cyI cyJ cyZ cyB cyO aM aM_d aM_f aM_came aM_got aM_held aM_off aM_gets aM_e aM_kept aM_found aM_tape aM_comesUp aM_comesDown aM_path aM_gotNow aM_bitsOf aM_sizeOf aM_number aM_passing vM_isKept vM_taped out.2.1 out.2.2.1 out.2.2.2.1 vM_up vM_down vM_sharesUp vM_sharesDown vM_onUp vM_onDown vM_great out.2.2.2.2.1 out.2.2.2.2.2.1 out.2.2.2.2.2.2.1 vM_fitting vM_firstSet vM_inAll vM_inAny vM_at vM_sort vM_from vM_value vM_fault out.2.2.2.2.2.2.2.1 out.2.2.2.2.2.2.2.2.1 out.2.2.2.2.2.2.2.2.2.1 out.2.2.2.2.2.2.2.2.2.2.1 out.2.2.2.2.2.2.2.2.2.2.2.1 out.2.2.2.2.2.2.2.2.2.2.2.2.1 out.2.2.2.2.2.2.2.2.2.2.2.2.2) out.1 := by
  refine Mi.mk (cc := cX8_bestOf) (maxL := 10) (rt := .int) (own := RX8) (by decide) rfl rfl (Nat.le_of_ble_eq_true rfl) ?_
  intro p e s m args below meth c A Q F hK hP hD hA hret ls hl
  obtain ⟨hx, hb, hml, hown, hts⟩ := id F
  have hS : va_S A s.heap s.heap [] := va_S.rf
  have hl : lv_has ls 10 [(0, .ref aM), (1, .int x1), (2, .int x2), (3, .int x3), (4, .int x4), (5, .int x5)] := hl
  have in_X8 : ∀ w ∈ wsX80, w ∈ wsX8_bestOf := by decide +kernel
  have q2 := hts (Cond.methodLink RX8 74 yX8_its) (List.mem_of_getElem? (i := 2) rfl)
  have q8 := hts (Cond.methodLink RX8 105 yX8_sets) (List.mem_of_getElem? (i := 8) rfl)
  have q12 := hts (Cond.methodLink RX8 224 yX8_tries) (List.mem_of_getElem? (i := 12) rfl)
  have q1 := hts (Cond.fieldLink RX8 51 "ThirdFountainModel" "gets" "[I") (List.mem_of_getElem? (i := 1) rfl)
  unfold f_X8_bestOf at h
  refine lv_aload_n hx hb dX8_bestOf_0 rfl (lv_at hl 0 rfl) ?_
  refine lv_iload_n hx hb dX8_bestOf_1 rfl (lv_at hl 1 rfl) ?_
  refine lv_iload_n hx hb dX8_bestOf_2 rfl (lv_at hl 3 rfl) ?_
  obtain ⟨u1, hu1, h⟩ := bd_some h
  refine cl_Vi (rest := []) F hK hP hD hS hA hl (t_X8_its l D cyI cyJ cyZ cyB cyO aM aM_d aM_e aM_f aM_kept aM_found aM_tape aM_came aM_got aM_held aM_off aM_comesUp aM_comesDown aM_path aM_gets aM_gotNow aM_bitsOf aM_sizeOf aM_number aM_passing vM_isKept vM_taped vM_leaked vM_keptAll vM_offAll vM_up vM_down vM_sharesUp vM_sharesDown vM_onUp vM_onDown vM_great vM_triedOff vM_triedLeaked vM_triedKept vM_fitting vM_firstSet vM_inAll vM_inAny vM_at vM_sort vM_from vM_value vM_fault cM_d x1 x3 u1 hu1) (cwV 2 hts gX8_bestOf_X8_its rfl rfl rfl (by decide +kernel) ⟨Nat.le_of_ble_eq_true rfl, Nat.le_of_ble_eq_true rfl⟩) 0 [0, 1] [1, 2, 0, 0, 0, 0, 0, 0] [] (w_X8_bestOf cyI cyJ cyZ cyB cyO aM aM_d aM_f aM_came aM_got aM_held aM_off aM_gets aM_e aM_kept aM_found aM_tape aM_comesUp aM_comesDown aM_path aM_gotNow aM_bitsOf aM_sizeOf aM_number aM_passing vM_isKept vM_taped vM_leaked vM_keptAll vM_offAll vM_up vM_down vM_sharesUp vM_sharesDown vM_onUp vM_onDown vM_great vM_triedOff vM_triedLeaked vM_triedKept vM_fitting vM_firstSet vM_inAll vM_inAny vM_at vM_sort vM_from vM_value vM_fault cM_d cM_f cM_came cM_got cM_held cM_off cM_gets) rfl rfl rfl rfl rfl (by decide +kernel) rfl rfl (Nat.le_of_ble_eq_true rfl) ⟨Nat.zero_le _, Nat.zero_le _⟩ dX8_bestOf_3 (fun H locs hP hD hS => ?_)
  refine lv_istore (lv' := [(6, .int u1), (0, .ref aM), (1, .int x1), (2, .int x2), (3, .int x3), (4, .int x4), (5, .int x5)]) hx hb dX8_bestOf_6 hl (by decide) rfl (fun ls hl => ?_)
  refine lv_iload hx hb dX8_bestOf_8 (lv_at hl 5 rfl) ?_
  refine lv_istore (lv' := [(7, .int x4), (6, .int u1), (0, .ref aM), (1, .int x1), (2, .int x2), (3, .int x3), (4, .int x4), (5, .int x5)]) hx hb dX8_bestOf_10 hl (by decide) rfl (fun ls hl => ?_)
  refine lv_iconst (v := -1) hx hb dX8_bestOf_12 (by decide) ?_
  refine lv_istore (lv' := [(8, .int (-1 : Int32)), (7, .int x4), (6, .int u1), (0, .ref aM), (1, .int x1), (2, .int x2), (3, .int x3), (4, .int x4), (5, .int x5)]) hx hb dX8_bestOf_13 hl (by decide) rfl (fun ls hl => ?_)
  refine lv_iload hx hb dX8_bestOf_15 (lv_at hl 7 rfl) ?_
  refine lv_istore (lv' := [(9, .int x4), (8, .int (-1 : Int32)), (7, .int x4), (6, .int u1), (0, .ref aM), (1, .int x1), (2, .int x2), (3, .int x3), (4, .int x4), (5, .int x5)]) hx hb dX8_bestOf_17 hl (by decide) rfl (fun ls hl => ?_)
  have lp19 : ∀ (k19 : Nat) (y6 : Int32) (y7 : Int32) (y8 : Int32) (y9 : Int32) (vM_leaked : Int32) (vM_keptAll : Int32) (vM_offAll : Int32) (vM_triedOff : Int32) (vM_triedLeaked : Int32) (vM_triedKept : Int32) (cM_d : Nat → Int32) (cM_f : Nat → Int32) (cM_came : Nat → Int32) (cM_got : Nat → Int32) (cM_held : Nat → Int32) (cM_off : Nat → Int32) (cM_gets : Nat → Int32) (H : Heap) (locs : List Loc) (ls : Array Slot), va_P D vwCl (w_X8_bestOf cyI cyJ cyZ cyB cyO aM aM_d aM_f aM_came aM_got aM_held aM_off aM_gets aM_e aM_kept aM_found aM_tape aM_comesUp aM_comesDown aM_path aM_gotNow aM_bitsOf aM_sizeOf aM_number aM_passing vM_isKept vM_taped vM_leaked vM_keptAll vM_offAll vM_up vM_down vM_sharesUp vM_sharesDown vM_onUp vM_onDown vM_great vM_triedOff vM_triedLeaked vM_triedKept vM_fitting vM_firstSet vM_inAll vM_inAny vM_at vM_sort vM_from vM_value vM_fault cM_d cM_f cM_came cM_got cM_held cM_off cM_gets) H → va_D A (w_X8_bestOf cyI cyJ cyZ cyB cyO aM aM_d aM_f aM_came aM_got aM_held aM_off aM_gets aM_e aM_kept aM_found aM_tape aM_comesUp aM_comesDown aM_path aM_gotNow aM_bitsOf aM_sizeOf aM_number aM_passing vM_isKept vM_taped vM_leaked vM_keptAll vM_offAll vM_up vM_down vM_sharesUp vM_sharesDown vM_onUp vM_onDown vM_great vM_triedOff vM_triedLeaked vM_triedKept vM_fitting vM_firstSet vM_inAll vM_inAny vM_at vM_sort vM_from vM_value vM_fault cM_d cM_f cM_came cM_got cM_held cM_off cM_gets) → va_S A s.heap H locs → lv_has ls 10 [(6, .int y6), (7, .int y7), (8, .int y8), (9, .int y9), (0, .ref aM), (1, .int x1), (2, .int x2), (3, .int x3), (5, .int x5)] → (f_X8_bestOf_L19 x1 x2 x3 x4 x5 k19) (y6, y7, y8, y9, vM_leaked, vM_keptAll, vM_offAll, vM_triedOff, vM_triedLeaked, vM_triedKept, cM_d, cM_f, cM_came, cM_got, cM_held, cM_off, cM_gets) = some out → W p l e ({ frames := 5, cells := 0, slots := 0, locals := 118 } : Room) s m args below meth c H locs 0 0 Q (F0 m 19 ls []) := by
    intro k19
    induction k19 with
    | zero => intro y6 y7 y8 y9 vM_leaked vM_keptAll vM_offAll vM_triedOff vM_triedLeaked vM_triedKept cM_d cM_f cM_came cM_got cM_held cM_off cM_gets H locs ls hP hD hS hl h; cases h
    | succ k19 ih19 =>
      intro y6 y7 y8 y9 vM_leaked vM_keptAll vM_offAll vM_triedOff vM_triedLeaked vM_triedKept cM_d cM_f cM_came cM_got cM_held cM_off cM_gets H locs ls hP hD hS hl h
      have h : f_X8_bestOf_L19_b x1 x2 x3 x4 x5 (f_X8_bestOf_L19 x1 x2 x3 x4 x5 k19) y6 y7 y8 y9 vM_leaked vM_keptAll vM_offAll vM_triedOff vM_triedLeaked vM_triedKept cM_d cM_f cM_came cM_got cM_held cM_off cM_gets = some out := h
      unfold f_X8_bestOf_L19_b at h
      refine lv_iload hx hb dX8_bestOf_19 (lv_at hl 3 rfl) ?_
      refine lv_iload hx hb dX8_bestOf_21 (lv_at hl 8 rfl) ?_
      have j89 : ∀ (y6 : Int32) (y7 : Int32) (vM_leaked : Int32) (vM_keptAll : Int32) (vM_offAll : Int32) (vM_triedOff : Int32) (vM_triedLeaked : Int32) (vM_triedKept : Int32) (cM_d : Nat → Int32) (cM_f : Nat → Int32) (cM_came : Nat → Int32) (cM_got : Nat → Int32) (cM_held : Nat → Int32) (cM_off : Nat → Int32) (cM_gets : Nat → Int32) (H : Heap) (locs : List Loc) (ls : Array Slot), va_P D vwCl (w_X8_bestOf cyI cyJ cyZ cyB cyO aM aM_d aM_f aM_came aM_got aM_held aM_off aM_gets aM_e aM_kept aM_found aM_tape aM_comesUp aM_comesDown aM_path aM_gotNow aM_bitsOf aM_sizeOf aM_number aM_passing vM_isKept vM_taped vM_leaked vM_keptAll vM_offAll vM_up vM_down vM_sharesUp vM_sharesDown vM_onUp vM_onDown vM_great vM_triedOff vM_triedLeaked vM_triedKept vM_fitting vM_firstSet vM_inAll vM_inAny vM_at vM_sort vM_from vM_value vM_fault cM_d cM_f cM_came cM_got cM_held cM_off cM_gets) H → va_D A (w_X8_bestOf cyI cyJ cyZ cyB cyO aM aM_d aM_f aM_came aM_got aM_held aM_off aM_gets aM_e aM_kept aM_found aM_tape aM_comesUp aM_comesDown aM_path aM_gotNow aM_bitsOf aM_sizeOf aM_number aM_passing vM_isKept vM_taped vM_leaked vM_keptAll vM_offAll vM_up vM_down vM_sharesUp vM_sharesDown vM_onUp vM_onDown vM_great vM_triedOff vM_triedLeaked vM_triedKept vM_fitting vM_firstSet vM_inAll vM_inAny vM_at vM_sort vM_from vM_value vM_fault cM_d cM_f cM_came cM_got cM_held cM_off cM_gets) → va_S A s.heap H locs → lv_has ls 10 [(6, .int y6), (7, .int y7), (0, .ref aM), (1, .int x1), (3, .int x3)] → f_X8_bestOf_J89 x1 x2 x3 x4 x5 y6 y7 vM_leaked vM_keptAll vM_offAll vM_triedOff vM_triedLeaked vM_triedKept cM_d cM_f cM_came cM_got cM_held cM_off cM_gets = some out → W p l e ({ frames := 5, cells := 0, slots := 0, locals := 118 } : Room) s m args below meth c H locs 0 0 Q (F0 m 89 ls []) := by
        intro y6 y7 vM_leaked vM_keptAll vM_offAll vM_triedOff vM_triedLeaked vM_triedKept cM_d cM_f cM_came cM_got cM_held cM_off cM_gets H locs ls hP hD hS hl h
        unfold f_X8_bestOf_J89 at h
        refine lv_aload_n hx hb dX8_bestOf_89 rfl (lv_at hl 2 rfl) ?_
        refine lv_iload_n hx hb dX8_bestOf_90 rfl (lv_at hl 3 rfl) ?_
        refine lv_iload_n hx hb dX8_bestOf_91 rfl (lv_at hl 4 rfl) ?_
        refine lv_iload hx hb dX8_bestOf_92 (lv_at hl 0 rfl) ?_
        obtain ⟨u2, hu2, h⟩ := bd_some h
        refine cl_Vv (rest := []) F hK hP hD hS hA hl (t_X8_sets l D cyI cyJ cyZ cyB cyO aM aM_d aM_e aM_f aM_kept aM_found aM_tape aM_came aM_got aM_held aM_off aM_comesUp aM_comesDown aM_path aM_gets aM_gotNow aM_bitsOf aM_sizeOf aM_number aM_passing vM_isKept vM_taped vM_leaked vM_keptAll vM_offAll vM_up vM_down vM_sharesUp vM_sharesDown vM_onUp vM_onDown vM_great vM_triedOff vM_triedLeaked vM_triedKept vM_fitting vM_firstSet vM_inAll vM_inAny vM_at vM_sort vM_from vM_value vM_fault cM_d x1 x3 y6 u2 hu2) (cwV 3 hts gX8_bestOf_X8_sets rfl rfl rfl (by decide +kernel) ⟨Nat.le_of_ble_eq_true rfl, Nat.le_of_ble_eq_true rfl⟩) 0 [0, 1] [1, 2, 0, 0, 0, 0, 0, 0] [] (w_X8_bestOf cyI cyJ cyZ cyB cyO aM aM_d aM_f aM_came aM_got aM_held aM_off aM_gets aM_e aM_kept aM_found aM_tape aM_comesUp aM_comesDown aM_path aM_gotNow aM_bitsOf aM_sizeOf aM_number aM_passing vM_isKept vM_taped vM_leaked vM_keptAll vM_offAll vM_up vM_down vM_sharesUp vM_sharesDown vM_onUp vM_onDown vM_great vM_triedOff vM_triedLeaked vM_triedKept vM_fitting vM_firstSet vM_inAll vM_inAny vM_at vM_sort vM_from vM_value vM_fault u2 cM_f cM_came cM_got cM_held cM_off cM_gets) rfl rfl rfl rfl rfl (by decide +kernel) rfl rfl (Nat.le_of_ble_eq_true rfl) ⟨Nat.zero_le _, Nat.zero_le _⟩ dX8_bestOf_94 (fun H locs hP hD hS => ?_)
        refine lv_iload hx hb dX8_bestOf_97 (lv_at hl 1 rfl) ?_
        obtain rfl := Option.some.inj h
        exact hret _ _ _ _ _ hP hD hS dX8_bestOf_99 rfl rfl
      refine lv_icmp_gt (tgt := 89) hx hb dX8_bestOf_23 (by decide) (fun c3 => ?_) (fun c3 => ?_)
      · have h := br_pos c3 h
        exact j89 y6 y7 vM_leaked vM_keptAll vM_offAll vM_triedOff vM_triedLeaked vM_triedKept cM_d cM_f cM_came cM_got cM_held cM_off cM_gets _ _ _ hP hD hS (lv_sub hl [0, 1, 4, 5, 7] rfl) h
      · have h := br_neg c3 h
        refine lv_aload_n hx hb dX8_bestOf_26 rfl (lv_at hl 4 rfl) ?_
        refine lv_iload_n hx hb dX8_bestOf_27 rfl (lv_at hl 5 rfl) ?_
        refine lv_iload_n hx hb dX8_bestOf_28 rfl (lv_at hl 7 rfl) ?_
        refine lv_iload hx hb dX8_bestOf_29 (lv_at hl 3 rfl) ?_
        obtain ⟨u4, hu4, h⟩ := bd_some h
        refine cl_Vv (rest := []) F hK hP hD hS hA hl (t_X8_sets l D cyI cyJ cyZ cyB cyO aM aM_d aM_e aM_f aM_kept aM_found aM_tape aM_came aM_got aM_held aM_off aM_comesUp aM_comesDown aM_path aM_gets aM_gotNow aM_bitsOf aM_sizeOf aM_number aM_passing vM_isKept vM_taped vM_leaked vM_keptAll vM_offAll vM_up vM_down vM_sharesUp vM_sharesDown vM_onUp vM_onDown vM_great vM_triedOff vM_triedLeaked vM_triedKept vM_fitting vM_firstSet vM_inAll vM_inAny vM_at vM_sort vM_from vM_value vM_fault cM_d x1 x3 y9 u4 hu4) (cwV 3 hts gX8_bestOf_X8_sets rfl rfl rfl (by decide +kernel) ⟨Nat.le_of_ble_eq_true rfl, Nat.le_of_ble_eq_true rfl⟩) 0 [0, 1] [1, 2, 0, 0, 0, 0, 0, 0] [] (w_X8_bestOf cyI cyJ cyZ cyB cyO aM aM_d aM_f aM_came aM_got aM_held aM_off aM_gets aM_e aM_kept aM_found aM_tape aM_comesUp aM_comesDown aM_path aM_gotNow aM_bitsOf aM_sizeOf aM_number aM_passing vM_isKept vM_taped vM_leaked vM_keptAll vM_offAll vM_up vM_down vM_sharesUp vM_sharesDown vM_onUp vM_onDown vM_great vM_triedOff vM_triedLeaked vM_triedKept vM_fitting vM_firstSet vM_inAll vM_inAny vM_at vM_sort vM_from vM_value vM_fault u4 cM_f cM_came cM_got cM_held cM_off cM_gets) rfl rfl rfl rfl rfl (by decide +kernel) rfl rfl (Nat.le_of_ble_eq_true rfl) ⟨Nat.zero_le _, Nat.zero_le _⟩ dX8_bestOf_31 (fun H locs hP hD hS => ?_)
        refine lv_aload_n hx hb dX8_bestOf_34 rfl (lv_at hl 4 rfl) ?_
        refine lv_iload_n hx hb dX8_bestOf_35 rfl (lv_at hl 6 rfl) ?_
        obtain ⟨u5, hu5, h⟩ := bd_some h
        refine cl_Vv (rest := []) F hK hP hD hS hA hl (t_X8_tries l D cyI cyJ cyZ cyB cyO aM aM_d aM_f aM_came aM_got aM_held aM_off aM_gets aM_e aM_kept aM_found aM_tape aM_comesUp aM_comesDown aM_path aM_gotNow aM_bitsOf aM_sizeOf aM_number aM_passing vM_isKept vM_taped vM_leaked vM_keptAll vM_offAll vM_up vM_down vM_sharesUp vM_sharesDown vM_onUp vM_onDown vM_great vM_triedOff vM_triedLeaked vM_triedKept vM_fitting vM_firstSet vM_inAll vM_inAny vM_at vM_sort vM_from vM_value vM_fault u4 cM_f cM_came cM_got cM_held cM_off cM_gets x2 u5 hu5) (cwV 1 hts gX8_bestOf_X8_tries rfl rfl rfl (by decide +kernel) ⟨Nat.le_of_ble_eq_true rfl, Nat.le_of_ble_eq_true rfl⟩) 0 [0, 1, 2, 3, 4, 5, 6, 7] [1, 2, 3, 4, 5, 6, 7, 8] [] (w_X8_bestOf cyI cyJ cyZ cyB cyO aM aM_d aM_f aM_came aM_got aM_held aM_off aM_gets aM_e aM_kept aM_found aM_tape aM_comesUp aM_comesDown aM_path aM_gotNow aM_bitsOf aM_sizeOf aM_number aM_passing vM_isKept vM_taped u5.1 u5.2.1 u5.2.2.1 vM_up vM_down vM_sharesUp vM_sharesDown vM_onUp vM_onDown vM_great u5.2.2.2.1 u5.2.2.2.2.1 u5.2.2.2.2.2.1 vM_fitting vM_firstSet vM_inAll vM_inAny vM_at vM_sort vM_from vM_value vM_fault u5.2.2.2.2.2.2.1 u5.2.2.2.2.2.2.2.1 u5.2.2.2.2.2.2.2.2.1 u5.2.2.2.2.2.2.2.2.2.1 u5.2.2.2.2.2.2.2.2.2.2.1 u5.2.2.2.2.2.2.2.2.2.2.2.1 u5.2.2.2.2.2.2.2.2.2.2.2.2) rfl rfl rfl rfl rfl (by decide +kernel) rfl rfl (Nat.le_of_ble_eq_true rfl) ⟨Nat.zero_le _, Nat.zero_le _⟩ dX8_bestOf_36 (fun H locs hP hD hS => ?_)
        refine lv_aload_n hx hb dX8_bestOf_39 rfl (lv_at hl 4 rfl) ?_
        refine va_get (D := D) (ci := 7) (v := .ref aM_gets) (C := RX8) (T := TX8) (N := 43) hx hb hts in_X8 hown hK hP 0 rfl rfl 25 (by decide) q1 (fun _ h9 => h9) rfl dX8_bestOf_40 ?_
        refine lv_iload_n hx hb dX8_bestOf_43 rfl (lv_at hl 5 rfl) ?_
        obtain ⟨g6, h⟩ := gd_some h
        refine va_iald hx hb hK hP 7 0 rfl rfl g6 dX8_bestOf_44 ?_
        refine lv_iload hx hb dX8_bestOf_45 (lv_at hl 2 rfl) ?_
        have j57 : ∀ (y6 : Int32) (y8 : Int32) (y9 : Int32) (t0 : Int32) (vM_leaked : Int32) (vM_keptAll : Int32) (vM_offAll : Int32) (vM_triedOff : Int32) (vM_triedLeaked : Int32) (vM_triedKept : Int32) (cM_d : Nat → Int32) (cM_f : Nat → Int32) (cM_came : Nat → Int32) (cM_got : Nat → Int32) (cM_held : Nat → Int32) (cM_off : Nat → Int32) (cM_gets : Nat → Int32) (H : Heap) (locs : List Loc) (ls : Array Slot), va_P D vwCl (w_X8_bestOf cyI cyJ cyZ cyB cyO aM aM_d aM_f aM_came aM_got aM_held aM_off aM_gets aM_e aM_kept aM_found aM_tape aM_comesUp aM_comesDown aM_path aM_gotNow aM_bitsOf aM_sizeOf aM_number aM_passing vM_isKept vM_taped vM_leaked vM_keptAll vM_offAll vM_up vM_down vM_sharesUp vM_sharesDown vM_onUp vM_onDown vM_great vM_triedOff vM_triedLeaked vM_triedKept vM_fitting vM_firstSet vM_inAll vM_inAny vM_at vM_sort vM_from vM_value vM_fault cM_d cM_f cM_came cM_got cM_held cM_off cM_gets) H → va_D A (w_X8_bestOf cyI cyJ cyZ cyB cyO aM aM_d aM_f aM_came aM_got aM_held aM_off aM_gets aM_e aM_kept aM_found aM_tape aM_comesUp aM_comesDown aM_path aM_gotNow aM_bitsOf aM_sizeOf aM_number aM_passing vM_isKept vM_taped vM_leaked vM_keptAll vM_offAll vM_up vM_down vM_sharesUp vM_sharesDown vM_onUp vM_onDown vM_great vM_triedOff vM_triedLeaked vM_triedKept vM_fitting vM_firstSet vM_inAll vM_inAny vM_at vM_sort vM_from vM_value vM_fault cM_d cM_f cM_came cM_got cM_held cM_off cM_gets) → va_S A s.heap H locs → lv_has ls 10 [(6, .int y6), (8, .int y8), (9, .int y9), (0, .ref aM), (1, .int x1), (2, .int x2), (3, .int x3), (5, .int x5)] → f_X8_bestOf_J57 x1 x2 x3 x4 x5 (f_X8_bestOf_L19 x1 x2 x3 x4 x5 k19) y6 y8 y9 t0 vM_leaked vM_keptAll vM_offAll vM_triedOff vM_triedLeaked vM_triedKept cM_d cM_f cM_came cM_got cM_held cM_off cM_gets = some out → W p l e ({ frames := 5, cells := 0, slots := 0, locals := 118 } : Room) s m args below meth c H locs 0 0 Q (F0 m 57 ls [.int t0]) := by
          intro y6 y8 y9 t0 vM_leaked vM_keptAll vM_offAll vM_triedOff vM_triedLeaked vM_triedKept cM_d cM_f cM_came cM_got cM_held cM_off cM_gets H locs ls hP hD hS hl h
          unfold f_X8_bestOf_J57 at h
          refine lv_istore (lv' := [(7, .int t0), (6, .int y6), (8, .int y8), (9, .int y9), (0, .ref aM), (1, .int x1), (2, .int x2), (3, .int x3), (5, .int x5)]) hx hb dX8_bestOf_57 hl (by decide) rfl (fun ls hl => ?_)
          refine lv_aload_n hx hb dX8_bestOf_59 rfl (lv_at hl 4 rfl) ?_
          refine va_get (D := D) (ci := 7) (v := .ref aM_gets) (C := RX8) (T := TX8) (N := 43) hx hb hts in_X8 hown hK hP 0 rfl rfl 25 (by decide) q1 (fun _ h9 => h9) rfl dX8_bestOf_60 ?_
          refine lv_iload_n hx hb dX8_bestOf_63 rfl (lv_at hl 5 rfl) ?_
          obtain ⟨g7, h⟩ := gd_some h
          refine va_iald hx hb hK hP 7 0 rfl rfl g7 dX8_bestOf_64 ?_
          refine lv_iload hx hb dX8_bestOf_65 (lv_at hl 2 rfl) ?_
          refine lv_icmp_le (tgt := 79) hx hb dX8_bestOf_67 (by decide) (fun c8 => ?_) (fun c8 => ?_)
          · have h := br_pos c8 h
            refine lv_iload hx hb dX8_bestOf_79 (lv_at hl 2 rfl) ?_
            refine lv_istore (lv' := [(8, .int y8), (7, .int t0), (6, .int y6), (9, .int y9), (0, .ref aM), (1, .int x1), (2, .int x2), (3, .int x3), (5, .int x5)]) hx hb dX8_bestOf_81 hl (by decide) rfl (fun ls hl => ?_)
            refine lv_iinc (v := y9 + 1) (lv' := [(9, .int (y9 + 1)), (8, .int y8), (7, .int t0), (6, .int y6), (0, .ref aM), (1, .int x1), (2, .int x2), (3, .int x3), (5, .int x5)]) hx hb dX8_bestOf_83 hl (k := 3) rfl rfl (by decide) rfl (fun ls hl => ?_)
            refine lv_goto (tgt := 19) hx hb dX8_bestOf_86 (by decide) ?_
            exact ih19 y6 t0 y8 (y9 + 1) vM_leaked vM_keptAll vM_offAll vM_triedOff vM_triedLeaked vM_triedKept cM_d cM_f cM_came cM_got cM_held cM_off cM_gets _ _ _ hP hD hS (lv_sub hl [3, 2, 1, 0, 4, 5, 6, 7, 8] rfl) h
          · have h := br_neg c8 h
            refine lv_aload_n hx hb dX8_bestOf_70 rfl (lv_at hl 4 rfl) ?_
            refine va_get (D := D) (ci := 7) (v := .ref aM_gets) (C := RX8) (T := TX8) (N := 43) hx hb hts in_X8 hown hK hP 0 rfl rfl 25 (by decide) q1 (fun _ h9 => h9) rfl dX8_bestOf_71 ?_
            refine lv_iload_n hx hb dX8_bestOf_74 rfl (lv_at hl 5 rfl) ?_
            obtain ⟨g9, h⟩ := gd_some h
            refine va_iald hx hb hK hP 7 0 rfl rfl g9 dX8_bestOf_75 ?_
            refine lv_goto (tgt := 81) hx hb dX8_bestOf_76 (by decide) ?_
            refine lv_topi (fun z10 ez10 => ?_)
            have h := nm_at ez10 h
            refine lv_istore (lv' := [(8, .int z10), (7, .int t0), (6, .int y6), (9, .int y9), (0, .ref aM), (1, .int x1), (2, .int x2), (3, .int x3), (5, .int x5)]) hx hb dX8_bestOf_81 hl (by decide) rfl (fun ls hl => ?_)
            refine lv_iinc (v := y9 + 1) (lv' := [(9, .int (y9 + 1)), (8, .int z10), (7, .int t0), (6, .int y6), (0, .ref aM), (1, .int x1), (2, .int x2), (3, .int x3), (5, .int x5)]) hx hb dX8_bestOf_83 hl (k := 3) rfl rfl (by decide) rfl (fun ls hl => ?_)
            refine lv_goto (tgt := 19) hx hb dX8_bestOf_86 (by decide) ?_
            exact ih19 y6 t0 z10 (y9 + 1) vM_leaked vM_keptAll vM_offAll vM_triedOff vM_triedLeaked vM_triedKept cM_d cM_f cM_came cM_got cM_held cM_off cM_gets _ _ _ hP hD hS (lv_sub hl [3, 2, 1, 0, 4, 5, 6, 7, 8] rfl) h
        refine lv_icmp_le (tgt := 55) hx hb dX8_bestOf_47 (by decide) (fun c11 => ?_) (fun c11 => ?_)
        · have h := br_pos c11 h
          refine lv_iload hx hb dX8_bestOf_55 (lv_at hl 1 rfl) ?_
          exact j57 y6 y8 y9 y7 u5.1 u5.2.1 u5.2.2.1 u5.2.2.2.1 u5.2.2.2.2.1 u5.2.2.2.2.2.1 u5.2.2.2.2.2.2.1 u5.2.2.2.2.2.2.2.1 u5.2.2.2.2.2.2.2.2.1 u5.2.2.2.2.2.2.2.2.2.1 u5.2.2.2.2.2.2.2.2.2.2.1 u5.2.2.2.2.2.2.2.2.2.2.2.1 u5.2.2.2.2.2.2.2.2.2.2.2.2 _ _ _ hP hD hS (lv_sub hl [0, 2, 3, 4, 5, 6, 7, 8] rfl) h
        · have h := br_neg c11 h
          refine lv_iload hx hb dX8_bestOf_50 (lv_at hl 3 rfl) ?_
          refine lv_goto (tgt := 57) hx hb dX8_bestOf_52 (by decide) ?_
          exact j57 y6 y8 y9 y9 u5.1 u5.2.1 u5.2.2.1 u5.2.2.2.1 u5.2.2.2.2.1 u5.2.2.2.2.2.1 u5.2.2.2.2.2.2.1 u5.2.2.2.2.2.2.2.1 u5.2.2.2.2.2.2.2.2.1 u5.2.2.2.2.2.2.2.2.2.1 u5.2.2.2.2.2.2.2.2.2.2.1 u5.2.2.2.2.2.2.2.2.2.2.2.1 u5.2.2.2.2.2.2.2.2.2.2.2.2 _ _ _ hP hD hS (lv_sub hl [0, 2, 3, 4, 5, 6, 7, 8] rfl) h
  exact lp19 FU u1 x4 (-1 : Int32) x4 vM_leaked vM_keptAll vM_offAll vM_triedOff vM_triedLeaked vM_triedKept cM_d cM_f cM_came cM_got cM_held cM_off cM_gets _ _ _ hP hD hS (lv_sub hl [3, 2, 1, 0, 4, 5, 6, 7, 9] rfl) h
/-! ===== X8_edge ===== -/
def w_X8_edge (cyI cyJ cyZ cyB cyO : ClassId) (aM aM_d aM_f aM_came aM_got aM_held aM_off aM_gets aM_found aM_e aM_kept aM_tape aM_comesUp aM_comesDown aM_path aM_gotNow aM_bitsOf aM_sizeOf aM_number aM_passing : Nat) (vM_isKept : Int32) (vM_taped : Int32) (vM_leaked : Int32) (vM_keptAll : Int32) (vM_offAll : Int32) (vM_up : Int64) (vM_down : Int64) (vM_sharesUp : Int64) (vM_sharesDown : Int64) (vM_onUp : Int64) (vM_onDown : Int64) (vM_great : Int32) (vM_triedOff : Int32) (vM_triedLeaked : Int32) (vM_triedKept : Int32) (vM_fitting : Int32) (vM_firstSet : Int32) (vM_inAll : Int32) (vM_inAny : Int32) (vM_at : Int32) (vM_sort : Int32) (vM_from : Int32) (vM_value : Int64) (vM_fault : Int32) (cM_d : Nat → Int32) (cM_f : Nat → Int32) (cM_came : Nat → Int32) (cM_got : Nat → Int32) (cM_held : Nat → Int32) (cM_off : Nat → Int32) (cM_gets : Nat → Int32) (cM_found : Nat → Int32) : va_W := [(aM, .inr (7, [.ref aM_d, .ref aM_e, .ref aM_f, .ref aM_kept, .int vM_isKept, .ref aM_found, .ref aM_tape, .int vM_taped, .ref aM_came, .ref aM_got, .ref aM_held, .ref aM_off, .int vM_leaked, .int vM_keptAll, .int vM_offAll, .ref aM_comesUp, .ref aM_comesDown, .long vM_up, .long vM_down, .long vM_sharesUp, .long vM_sharesDown, .long vM_onUp, .long vM_onDown, .int vM_great, .ref aM_path, .ref aM_gets, .int vM_triedOff, .int vM_triedLeaked, .int vM_triedKept, .ref aM_gotNow, .int vM_fitting, .int vM_firstSet, .int vM_inAll, .int vM_inAny, .int vM_at, .int vM_sort, .int vM_from, .long vM_value, .int vM_fault, .ref aM_bitsOf, .ref aM_sizeOf, .ref aM_number, .ref aM_passing])), (aM_d, .inl (cyI, 64, .inl cM_d)), (aM_f, .inl (cyI, 64, .inl cM_f)), (aM_came, .inl (cyI, 10, .inl cM_came)), (aM_got, .inl (cyI, 10, .inl cM_got)), (aM_held, .inl (cyI, 10, .inl cM_held)), (aM_off, .inl (cyI, 10, .inl cM_off)), (aM_gets, .inl (cyI, 10, .inl cM_gets)), (aM_found, .inl (cyI, 7, .inl cM_found))]
set_option maxHeartbeats 4000000 in
set_option maxRecDepth 100000 in
theorem t_X8_edge (l : Launch) (D : va_G) (cyI cyJ cyZ cyB cyO : ClassId) (aM aM_d aM_f aM_came aM_got aM_held aM_off aM_gets aM_found aM_e aM_kept aM_tape aM_comesUp aM_comesDown aM_path aM_gotNow aM_bitsOf aM_sizeOf aM_number aM_passing : Nat) (vM_isKept : Int32) (vM_taped : Int32) (vM_leaked : Int32) (vM_keptAll : Int32) (vM_offAll : Int32) (vM_up : Int64) (vM_down : Int64) (vM_sharesUp : Int64) (vM_sharesDown : Int64) (vM_onUp : Int64) (vM_onDown : Int64) (vM_great : Int32) (vM_triedOff : Int32) (vM_triedLeaked : Int32) (vM_triedKept : Int32) (vM_fitting : Int32) (vM_firstSet : Int32) (vM_inAll : Int32) (vM_inAny : Int32) (vM_at : Int32) (vM_sort : Int32) (vM_from : Int32) (vM_value : Int64) (vM_fault : Int32) (cM_d : Nat → Int32) (cM_f : Nat → Int32) (cM_came : Nat → Int32) (cM_got : Nat → Int32) (cM_held : Nat → Int32) (cM_off : Nat → Int32) (cM_gets : Nat → Int32) (cM_found : Nat → Int32) (x1 : Int32) (x2 : Int32) (out : Int32 × Int32 × Int32 × Int32 × Int32 × Int32 × Int32 × (Nat → Int32) × (Nat → Int32) × (Nat → Int32) × (Nat → Int32) × (Nat → Int32) × (Nat → Int32) × (Nat → Int32) × (Nat → Int32)) (h : f_X8_edge x1 x2 vM_leaked vM_keptAll vM_offAll vM_triedOff vM_triedLeaked vM_triedKept cM_d cM_f cM_came cM_got cM_held cM_off cM_gets cM_found = some out) : Mi l yX8_edge wsX8_edge ({ frames := 6, cells := 0, slots := 0, locals := 147 } : Room) D (tyA cyI cyJ cyZ cyB cyO) [.ref aM, .int x1, .int x2] (w_X8_edge cyI cyJ cyZ cyB cyO aM aM_d aM_f aM_came aM_got aM_held aM_off aM_gets aM_found aM_e aM_kept aM_tape aM_comesUp aM_comesDown aM_path aM_gotNow aM_bitsOf aM_sizeOf aM_number aM_passing vM_isKept vM_taped vM_leaked vM_keptAll vM_offAll vM_up vM_down vM_sharesUp vM_sharesDown vM_onUp vM_onDown vM_great vM_triedOff vM_triedLeaked vM_triedKept vM_fitting vM_firstSet vM_inAll vM_inAny vM_at vM_sort vM_from vM_value vM_fault cM_d cM_f cM_came cM_got cM_held cM_off cM_gets cM_found) (w_X8_edge cyI cyJ cyZ cyB cyO aM aM_d aM_f aM_came aM_got aM_held aM_off aM_gets aM_found aM_e aM_kept aM_tape aM_comesUp aM_comesDown aM_path aM_gotNow aM_bitsOf aM_sizeOf aM_number aM_passing vM_isKept vM_taped out.2.1 out.2.2.1 out.2.2.2.1 vM_up vM_down vM_sharesUp vM_sharesDown vM_onUp vM_onDown vM_great out.2.2.2.2.1 out.2.2.2.2.2.1 out.2.2.2.2.2.2.1 vM_fitting vM_firstSet vM_inAll vM_inAny vM_at vM_sort vM_from vM_value vM_fault out.2.2.2.2.2.2.2.1 out.2.2.2.2.2.2.2.2.1 out.2.2.2.2.2.2.2.2.2.1 out.2.2.2.2.2.2.2.2.2.2.1 out.2.2.2.2.2.2.2.2.2.2.2.1 out.2.2.2.2.2.2.2.2.2.2.2.2.1 out.2.2.2.2.2.2.2.2.2.2.2.2.2.1 out.2.2.2.2.2.2.2.2.2.2.2.2.2.2) out.1 := by
  refine Mi.mk (cc := cX8_edge) (maxL := 4) (rt := .int) (own := RX8) (by decide) rfl rfl (Nat.le_of_ble_eq_true rfl) ?_
  intro p e s m args below meth c A Q F hK hP hD hA hret ls hl
  obtain ⟨hx, hb, hml, hown, hts⟩ := id F
  have hS : va_S A s.heap s.heap [] := va_S.rf
  have hl : lv_has ls 4 [(0, .ref aM), (1, .int x1), (2, .int x2)] := hl
  have q1 := hts (Cond.methodLink RX8 229 yX8_why) (List.mem_of_getElem? (i := 1) rfl)
  have q25 := hts (Cond.methodLink RX8 232 yX8_bestOf) (List.mem_of_getElem? (i := 25) rfl)
  have q19 := hts (Cond.methodLink RX8 115 yX8_finds) (List.mem_of_getElem? (i := 19) rfl)
  unfold f_X8_edge at h
  refine lv_aload_n hx hb dX8_edge_0 rfl (lv_at hl 0 rfl) ?_
  refine lv_iload_n hx hb dX8_edge_1 rfl (lv_at hl 1 rfl) ?_
  refine lv_iload_n hx hb dX8_edge_2 rfl (lv_at hl 2 rfl) ?_
  refine lv_iconst (v := 0) hx hb dX8_edge_3 (by decide) ?_
  obtain ⟨u1, hu1, h⟩ := bd_some h
  refine cl_Vi (rest := []) F hK hP hD hS hA hl (t_X8_why l D cyI cyJ cyZ cyB cyO aM aM_d aM_e aM_f aM_kept aM_found aM_tape aM_came aM_got aM_held aM_off aM_comesUp aM_comesDown aM_path aM_gets aM_gotNow aM_bitsOf aM_sizeOf aM_number aM_passing vM_isKept vM_taped vM_leaked vM_keptAll vM_offAll vM_up vM_down vM_sharesUp vM_sharesDown vM_onUp vM_onDown vM_great vM_triedOff vM_triedLeaked vM_triedKept vM_fitting vM_firstSet vM_inAll vM_inAny vM_at vM_sort vM_from vM_value vM_fault cM_d x1 x2 (0 : Int32) u1 hu1) (cwV 3 hts gX8_edge_X8_why rfl rfl rfl (by decide +kernel) ⟨Nat.le_of_ble_eq_true rfl, Nat.le_of_ble_eq_true rfl⟩) 0 [0, 1] [1, 2, 0, 0, 0, 0, 0, 0, 0] [] (w_X8_edge cyI cyJ cyZ cyB cyO aM aM_d aM_f aM_came aM_got aM_held aM_off aM_gets aM_found aM_e aM_kept aM_tape aM_comesUp aM_comesDown aM_path aM_gotNow aM_bitsOf aM_sizeOf aM_number aM_passing vM_isKept vM_taped vM_leaked vM_keptAll vM_offAll vM_up vM_down vM_sharesUp vM_sharesDown vM_onUp vM_onDown vM_great vM_triedOff vM_triedLeaked vM_triedKept vM_fitting vM_firstSet vM_inAll vM_inAny vM_at vM_sort vM_from vM_value vM_fault cM_d cM_f cM_came cM_got cM_held cM_off cM_gets cM_found) rfl rfl rfl rfl rfl (by decide +kernel) rfl rfl (Nat.le_of_ble_eq_true rfl) ⟨Nat.zero_le _, Nat.zero_le _⟩ dX8_edge_4 (fun H locs hP hD hS => ?_)
  refine lv_istore_n (lv' := [(3, .int u1), (0, .ref aM), (1, .int x1), (2, .int x2)]) hx hb dX8_edge_7 rfl hl (by decide) rfl (fun ls hl => ?_)
  refine lv_iload_n hx hb dX8_edge_8 rfl (lv_at hl 0 rfl) ?_
  refine lv_if_lt (tgt := 20) hx hb dX8_edge_9 (by decide) (fun c2 => ?_) (fun c2 => ?_)
  · have h := br_pos c2 h
    refine lv_aload_n hx hb dX8_edge_20 rfl (lv_at hl 1 rfl) ?_
    refine lv_iload_n hx hb dX8_edge_21 rfl (lv_at hl 2 rfl) ?_
    refine lv_iload_n hx hb dX8_edge_22 rfl (lv_at hl 3 rfl) ?_
    refine lv_iconst (v := 2) hx hb dX8_edge_23 (by decide) ?_
    refine lv_iconst (v := 1) hx hb dX8_edge_24 (by decide) ?_
    refine lv_bipush (v := 9) hx hb dX8_edge_25 (by decide) ?_
    obtain ⟨u3, hu3, h⟩ := bd_some h
    refine cl_Vi (rest := []) F hK hP hD hS hA hl (t_X8_bestOf l D cyI cyJ cyZ cyB cyO aM aM_d aM_f aM_came aM_got aM_held aM_off aM_gets aM_e aM_kept aM_found aM_tape aM_comesUp aM_comesDown aM_path aM_gotNow aM_bitsOf aM_sizeOf aM_number aM_passing vM_isKept vM_taped vM_leaked vM_keptAll vM_offAll vM_up vM_down vM_sharesUp vM_sharesDown vM_onUp vM_onDown vM_great vM_triedOff vM_triedLeaked vM_triedKept vM_fitting vM_firstSet vM_inAll vM_inAny vM_at vM_sort vM_from vM_value vM_fault cM_d cM_f cM_came cM_got cM_held cM_off cM_gets x1 x2 (2 : Int32) (1 : Int32) (9 : Int32) u3 hu3) (cwV 5 hts gX8_edge_X8_bestOf rfl rfl rfl (by decide +kernel) ⟨Nat.le_of_ble_eq_true rfl, Nat.le_of_ble_eq_true rfl⟩) 0 [0, 1, 2, 3, 4, 5, 6, 7] [1, 2, 3, 4, 5, 6, 7, 8, 0] [] (w_X8_edge cyI cyJ cyZ cyB cyO aM aM_d aM_f aM_came aM_got aM_held aM_off aM_gets aM_found aM_e aM_kept aM_tape aM_comesUp aM_comesDown aM_path aM_gotNow aM_bitsOf aM_sizeOf aM_number aM_passing vM_isKept vM_taped u3.2.1 u3.2.2.1 u3.2.2.2.1 vM_up vM_down vM_sharesUp vM_sharesDown vM_onUp vM_onDown vM_great u3.2.2.2.2.1 u3.2.2.2.2.2.1 u3.2.2.2.2.2.2.1 vM_fitting vM_firstSet vM_inAll vM_inAny vM_at vM_sort vM_from vM_value vM_fault u3.2.2.2.2.2.2.2.1 u3.2.2.2.2.2.2.2.2.1 u3.2.2.2.2.2.2.2.2.2.1 u3.2.2.2.2.2.2.2.2.2.2.1 u3.2.2.2.2.2.2.2.2.2.2.2.1 u3.2.2.2.2.2.2.2.2.2.2.2.2.1 u3.2.2.2.2.2.2.2.2.2.2.2.2.2 cM_found) rfl rfl rfl rfl rfl (by decide +kernel) rfl rfl (Nat.le_of_ble_eq_true rfl) ⟨Nat.zero_le _, Nat.zero_le _⟩ dX8_edge_27 (fun H locs hP hD hS => ?_)
    obtain rfl := Option.some.inj h
    exact hret _ _ _ _ _ hP hD hS dX8_edge_30 rfl rfl
  · have h := br_neg c2 h
    refine lv_aload_n hx hb dX8_edge_12 rfl (lv_at hl 1 rfl) ?_
    refine lv_iload_n hx hb dX8_edge_13 rfl (lv_at hl 0 rfl) ?_
    obtain ⟨u4, hu4, h⟩ := bd_some h
    refine cl_Vi (rest := []) F hK hP hD hS hA hl (t_X8_finds l D cyI cyJ cyZ cyB cyO aM aM_found aM_d aM_e aM_f aM_kept aM_tape aM_came aM_got aM_held aM_off aM_comesUp aM_comesDown aM_path aM_gets aM_gotNow aM_bitsOf aM_sizeOf aM_number aM_passing vM_isKept vM_taped vM_leaked vM_keptAll vM_offAll vM_up vM_down vM_sharesUp vM_sharesDown vM_onUp vM_onDown vM_great vM_triedOff vM_triedLeaked vM_triedKept vM_fitting vM_firstSet vM_inAll vM_inAny vM_at vM_sort vM_from vM_value vM_fault cM_found u1 u4 hu4) (cwV 1 hts gX8_edge_X8_finds rfl rfl rfl (by decide +kernel) ⟨Nat.le_of_ble_eq_true rfl, Nat.le_of_ble_eq_true rfl⟩) 0 [0, 8] [1, 0, 0, 0, 0, 0, 0, 0, 2] [] (w_X8_edge cyI cyJ cyZ cyB cyO aM aM_d aM_f aM_came aM_got aM_held aM_off aM_gets aM_found aM_e aM_kept aM_tape aM_comesUp aM_comesDown aM_path aM_gotNow aM_bitsOf aM_sizeOf aM_number aM_passing vM_isKept vM_taped vM_leaked vM_keptAll vM_offAll vM_up vM_down vM_sharesUp vM_sharesDown vM_onUp vM_onDown vM_great vM_triedOff vM_triedLeaked vM_triedKept vM_fitting vM_firstSet vM_inAll vM_inAny vM_at vM_sort vM_from vM_value vM_fault cM_d cM_f cM_came cM_got cM_held cM_off cM_gets u4.2) rfl rfl rfl rfl rfl (by decide +kernel) rfl rfl (Nat.le_of_ble_eq_true rfl) ⟨Nat.zero_le _, Nat.zero_le _⟩ dX8_edge_14 (fun H locs hP hD hS => ?_)
    refine lv_goto (tgt := 30) hx hb dX8_edge_17 (by decide) ?_
    obtain rfl := Option.some.inj h
    exact hret _ _ _ _ _ hP hD hS dX8_edge_30 rfl rfl
/-! ===== X8_place ===== -/
def w_X8_place (cyI cyJ cyZ cyB cyO : ClassId) (aM aM_d aM_f aM_came aM_got aM_held aM_off aM_gets aM_found aM_e aM_kept aM_tape aM_comesUp aM_comesDown aM_path aM_gotNow aM_bitsOf aM_sizeOf aM_number aM_passing : Nat) (vM_isKept : Int32) (vM_taped : Int32) (vM_leaked : Int32) (vM_keptAll : Int32) (vM_offAll : Int32) (vM_up : Int64) (vM_down : Int64) (vM_sharesUp : Int64) (vM_sharesDown : Int64) (vM_onUp : Int64) (vM_onDown : Int64) (vM_great : Int32) (vM_triedOff : Int32) (vM_triedLeaked : Int32) (vM_triedKept : Int32) (vM_fitting : Int32) (vM_firstSet : Int32) (vM_inAll : Int32) (vM_inAny : Int32) (vM_at : Int32) (vM_sort : Int32) (vM_from : Int32) (vM_value : Int64) (vM_fault : Int32) (cM_d : Nat → Int32) (cM_f : Nat → Int32) (cM_came : Nat → Int32) (cM_got : Nat → Int32) (cM_held : Nat → Int32) (cM_off : Nat → Int32) (cM_gets : Nat → Int32) (cM_found : Nat → Int32) : va_W := [(aM, .inr (7, [.ref aM_d, .ref aM_e, .ref aM_f, .ref aM_kept, .int vM_isKept, .ref aM_found, .ref aM_tape, .int vM_taped, .ref aM_came, .ref aM_got, .ref aM_held, .ref aM_off, .int vM_leaked, .int vM_keptAll, .int vM_offAll, .ref aM_comesUp, .ref aM_comesDown, .long vM_up, .long vM_down, .long vM_sharesUp, .long vM_sharesDown, .long vM_onUp, .long vM_onDown, .int vM_great, .ref aM_path, .ref aM_gets, .int vM_triedOff, .int vM_triedLeaked, .int vM_triedKept, .ref aM_gotNow, .int vM_fitting, .int vM_firstSet, .int vM_inAll, .int vM_inAny, .int vM_at, .int vM_sort, .int vM_from, .long vM_value, .int vM_fault, .ref aM_bitsOf, .ref aM_sizeOf, .ref aM_number, .ref aM_passing])), (aM_d, .inl (cyI, 64, .inl cM_d)), (aM_f, .inl (cyI, 64, .inl cM_f)), (aM_came, .inl (cyI, 10, .inl cM_came)), (aM_got, .inl (cyI, 10, .inl cM_got)), (aM_held, .inl (cyI, 10, .inl cM_held)), (aM_off, .inl (cyI, 10, .inl cM_off)), (aM_gets, .inl (cyI, 10, .inl cM_gets)), (aM_found, .inl (cyI, 7, .inl cM_found))]
set_option maxHeartbeats 4000000 in
set_option maxRecDepth 100000 in
theorem t_X8_place (l : Launch) (D : va_G) (cyI cyJ cyZ cyB cyO : ClassId) (aM aM_d aM_f aM_came aM_got aM_held aM_off aM_gets aM_found aM_e aM_kept aM_tape aM_comesUp aM_comesDown aM_path aM_gotNow aM_bitsOf aM_sizeOf aM_number aM_passing : Nat) (vM_isKept : Int32) (vM_taped : Int32) (vM_leaked : Int32) (vM_keptAll : Int32) (vM_offAll : Int32) (vM_up : Int64) (vM_down : Int64) (vM_sharesUp : Int64) (vM_sharesDown : Int64) (vM_onUp : Int64) (vM_onDown : Int64) (vM_great : Int32) (vM_triedOff : Int32) (vM_triedLeaked : Int32) (vM_triedKept : Int32) (vM_fitting : Int32) (vM_firstSet : Int32) (vM_inAll : Int32) (vM_inAny : Int32) (vM_at : Int32) (vM_sort : Int32) (vM_from : Int32) (vM_value : Int64) (vM_fault : Int32) (cM_d : Nat → Int32) (cM_f : Nat → Int32) (cM_came : Nat → Int32) (cM_got : Nat → Int32) (cM_held : Nat → Int32) (cM_off : Nat → Int32) (cM_gets : Nat → Int32) (cM_found : Nat → Int32) (x1 : Int32) (x2 : Int32) (out : Int32 × Int32 × Int32 × Int32 × Int32 × Int32 × Int32 × (Nat → Int32) × (Nat → Int32) × (Nat → Int32) × (Nat → Int32) × (Nat → Int32) × (Nat → Int32) × (Nat → Int32) × (Nat → Int32)) (h : f_X8_place x1 x2 vM_leaked vM_keptAll vM_offAll vM_triedOff vM_triedLeaked vM_triedKept cM_d cM_f cM_came cM_got cM_held cM_off cM_gets cM_found = some out) : Mi l yX8_place wsX8_place ({ frames := 6, cells := 0, slots := 0, locals := 147 } : Room) D (tyA cyI cyJ cyZ cyB cyO) [.ref aM, .int x1, .int x2] (w_X8_place cyI cyJ cyZ cyB cyO aM aM_d aM_f aM_came aM_got aM_held aM_off aM_gets aM_found aM_e aM_kept aM_tape aM_comesUp aM_comesDown aM_path aM_gotNow aM_bitsOf aM_sizeOf aM_number aM_passing vM_isKept vM_taped vM_leaked vM_keptAll vM_offAll vM_up vM_down vM_sharesUp vM_sharesDown vM_onUp vM_onDown vM_great vM_triedOff vM_triedLeaked vM_triedKept vM_fitting vM_firstSet vM_inAll vM_inAny vM_at vM_sort vM_from vM_value vM_fault cM_d cM_f cM_came cM_got cM_held cM_off cM_gets cM_found) (w_X8_place cyI cyJ cyZ cyB cyO aM aM_d aM_f aM_came aM_got aM_held aM_off aM_gets aM_found aM_e aM_kept aM_tape aM_comesUp aM_comesDown aM_path aM_gotNow aM_bitsOf aM_sizeOf aM_number aM_passing vM_isKept vM_taped out.2.1 out.2.2.1 out.2.2.2.1 vM_up vM_down vM_sharesUp vM_sharesDown vM_onUp vM_onDown vM_great out.2.2.2.2.1 out.2.2.2.2.2.1 out.2.2.2.2.2.2.1 vM_fitting vM_firstSet vM_inAll vM_inAny vM_at vM_sort vM_from vM_value vM_fault out.2.2.2.2.2.2.2.1 out.2.2.2.2.2.2.2.2.1 out.2.2.2.2.2.2.2.2.2.1 out.2.2.2.2.2.2.2.2.2.2.1 out.2.2.2.2.2.2.2.2.2.2.2.1 out.2.2.2.2.2.2.2.2.2.2.2.2.1 out.2.2.2.2.2.2.2.2.2.2.2.2.2.1 out.2.2.2.2.2.2.2.2.2.2.2.2.2.2) out.1 := by
  refine Mi.mk (cc := cX8_place) (maxL := 4) (rt := .int) (own := RX8) (by decide) rfl rfl (Nat.le_of_ble_eq_true rfl) ?_
  intro p e s m args below meth c A Q F hK hP hD hA hret ls hl
  obtain ⟨hx, hb, hml, hown, hts⟩ := id F
  have hS : va_S A s.heap s.heap [] := va_S.rf
  have hl : lv_has ls 4 [(0, .ref aM), (1, .int x1), (2, .int x2)] := hl
  have q1 := hts (Cond.methodLink RX8 229 yX8_why) (List.mem_of_getElem? (i := 1) rfl)
  have q25 := hts (Cond.methodLink RX8 232 yX8_bestOf) (List.mem_of_getElem? (i := 25) rfl)
  have q19 := hts (Cond.methodLink RX8 115 yX8_finds) (List.mem_of_getElem? (i := 19) rfl)
  unfold f_X8_place at h
  refine lv_aload_n hx hb dX8_place_0 rfl (lv_at hl 0 rfl) ?_
  refine lv_iload_n hx hb dX8_place_1 rfl (lv_at hl 1 rfl) ?_
  refine lv_iload_n hx hb dX8_place_2 rfl (lv_at hl 2 rfl) ?_
  refine lv_iconst (v := 1) hx hb dX8_place_3 (by decide) ?_
  obtain ⟨u1, hu1, h⟩ := bd_some h
  refine cl_Vi (rest := []) F hK hP hD hS hA hl (t_X8_why l D cyI cyJ cyZ cyB cyO aM aM_d aM_e aM_f aM_kept aM_found aM_tape aM_came aM_got aM_held aM_off aM_comesUp aM_comesDown aM_path aM_gets aM_gotNow aM_bitsOf aM_sizeOf aM_number aM_passing vM_isKept vM_taped vM_leaked vM_keptAll vM_offAll vM_up vM_down vM_sharesUp vM_sharesDown vM_onUp vM_onDown vM_great vM_triedOff vM_triedLeaked vM_triedKept vM_fitting vM_firstSet vM_inAll vM_inAny vM_at vM_sort vM_from vM_value vM_fault cM_d x1 x2 (1 : Int32) u1 hu1) (cwV 3 hts gX8_place_X8_why rfl rfl rfl (by decide +kernel) ⟨Nat.le_of_ble_eq_true rfl, Nat.le_of_ble_eq_true rfl⟩) 0 [0, 1] [1, 2, 0, 0, 0, 0, 0, 0, 0] [] (w_X8_place cyI cyJ cyZ cyB cyO aM aM_d aM_f aM_came aM_got aM_held aM_off aM_gets aM_found aM_e aM_kept aM_tape aM_comesUp aM_comesDown aM_path aM_gotNow aM_bitsOf aM_sizeOf aM_number aM_passing vM_isKept vM_taped vM_leaked vM_keptAll vM_offAll vM_up vM_down vM_sharesUp vM_sharesDown vM_onUp vM_onDown vM_great vM_triedOff vM_triedLeaked vM_triedKept vM_fitting vM_firstSet vM_inAll vM_inAny vM_at vM_sort vM_from vM_value vM_fault cM_d cM_f cM_came cM_got cM_held cM_off cM_gets cM_found) rfl rfl rfl rfl rfl (by decide +kernel) rfl rfl (Nat.le_of_ble_eq_true rfl) ⟨Nat.zero_le _, Nat.zero_le _⟩ dX8_place_4 (fun H locs hP hD hS => ?_)
  refine lv_istore_n (lv' := [(3, .int u1), (0, .ref aM), (1, .int x1), (2, .int x2)]) hx hb dX8_place_7 rfl hl (by decide) rfl (fun ls hl => ?_)
  refine lv_iload_n hx hb dX8_place_8 rfl (lv_at hl 0 rfl) ?_
  refine lv_if_lt (tgt := 20) hx hb dX8_place_9 (by decide) (fun c2 => ?_) (fun c2 => ?_)
  · have h := br_pos c2 h
    refine lv_aload_n hx hb dX8_place_20 rfl (lv_at hl 1 rfl) ?_
    refine lv_iload_n hx hb dX8_place_21 rfl (lv_at hl 2 rfl) ?_
    refine lv_iload_n hx hb dX8_place_22 rfl (lv_at hl 3 rfl) ?_
    refine lv_iconst (v := 1) hx hb dX8_place_23 (by decide) ?_
    refine lv_iconst (v := 0) hx hb dX8_place_24 (by decide) ?_
    refine lv_iload_n hx hb dX8_place_25 rfl (lv_at hl 2 rfl) ?_
    refine lv_iconst (v := 1) hx hb dX8_place_26 (by decide) ?_
    refine lv_isub hx hb dX8_place_27 ?_
    obtain ⟨u3, hu3, h⟩ := bd_some h
    refine cl_Vi (rest := []) F hK hP hD hS hA hl (t_X8_bestOf l D cyI cyJ cyZ cyB cyO aM aM_d aM_f aM_came aM_got aM_held aM_off aM_gets aM_e aM_kept aM_found aM_tape aM_comesUp aM_comesDown aM_path aM_gotNow aM_bitsOf aM_sizeOf aM_number aM_passing vM_isKept vM_taped vM_leaked vM_keptAll vM_offAll vM_up vM_down vM_sharesUp vM_sharesDown vM_onUp vM_onDown vM_great vM_triedOff vM_triedLeaked vM_triedKept vM_fitting vM_firstSet vM_inAll vM_inAny vM_at vM_sort vM_from vM_value vM_fault cM_d cM_f cM_came cM_got cM_held cM_off cM_gets x1 x2 (1 : Int32) (0 : Int32) (x1 - (1 : Int32)) u3 hu3) (cwV 5 hts gX8_place_X8_bestOf rfl rfl rfl (by decide +kernel) ⟨Nat.le_of_ble_eq_true rfl, Nat.le_of_ble_eq_true rfl⟩) 0 [0, 1, 2, 3, 4, 5, 6, 7] [1, 2, 3, 4, 5, 6, 7, 8, 0] [] (w_X8_place cyI cyJ cyZ cyB cyO aM aM_d aM_f aM_came aM_got aM_held aM_off aM_gets aM_found aM_e aM_kept aM_tape aM_comesUp aM_comesDown aM_path aM_gotNow aM_bitsOf aM_sizeOf aM_number aM_passing vM_isKept vM_taped u3.2.1 u3.2.2.1 u3.2.2.2.1 vM_up vM_down vM_sharesUp vM_sharesDown vM_onUp vM_onDown vM_great u3.2.2.2.2.1 u3.2.2.2.2.2.1 u3.2.2.2.2.2.2.1 vM_fitting vM_firstSet vM_inAll vM_inAny vM_at vM_sort vM_from vM_value vM_fault u3.2.2.2.2.2.2.2.1 u3.2.2.2.2.2.2.2.2.1 u3.2.2.2.2.2.2.2.2.2.1 u3.2.2.2.2.2.2.2.2.2.2.1 u3.2.2.2.2.2.2.2.2.2.2.2.1 u3.2.2.2.2.2.2.2.2.2.2.2.2.1 u3.2.2.2.2.2.2.2.2.2.2.2.2.2 cM_found) rfl rfl rfl rfl rfl (by decide +kernel) rfl rfl (Nat.le_of_ble_eq_true rfl) ⟨Nat.zero_le _, Nat.zero_le _⟩ dX8_place_28 (fun H locs hP hD hS => ?_)
    obtain rfl := Option.some.inj h
    exact hret _ _ _ _ _ hP hD hS dX8_place_31 rfl rfl
  · have h := br_neg c2 h
    refine lv_aload_n hx hb dX8_place_12 rfl (lv_at hl 1 rfl) ?_
    refine lv_iload_n hx hb dX8_place_13 rfl (lv_at hl 0 rfl) ?_
    obtain ⟨u4, hu4, h⟩ := bd_some h
    refine cl_Vi (rest := []) F hK hP hD hS hA hl (t_X8_finds l D cyI cyJ cyZ cyB cyO aM aM_found aM_d aM_e aM_f aM_kept aM_tape aM_came aM_got aM_held aM_off aM_comesUp aM_comesDown aM_path aM_gets aM_gotNow aM_bitsOf aM_sizeOf aM_number aM_passing vM_isKept vM_taped vM_leaked vM_keptAll vM_offAll vM_up vM_down vM_sharesUp vM_sharesDown vM_onUp vM_onDown vM_great vM_triedOff vM_triedLeaked vM_triedKept vM_fitting vM_firstSet vM_inAll vM_inAny vM_at vM_sort vM_from vM_value vM_fault cM_found u1 u4 hu4) (cwV 1 hts gX8_place_X8_finds rfl rfl rfl (by decide +kernel) ⟨Nat.le_of_ble_eq_true rfl, Nat.le_of_ble_eq_true rfl⟩) 0 [0, 8] [1, 0, 0, 0, 0, 0, 0, 0, 2] [] (w_X8_place cyI cyJ cyZ cyB cyO aM aM_d aM_f aM_came aM_got aM_held aM_off aM_gets aM_found aM_e aM_kept aM_tape aM_comesUp aM_comesDown aM_path aM_gotNow aM_bitsOf aM_sizeOf aM_number aM_passing vM_isKept vM_taped vM_leaked vM_keptAll vM_offAll vM_up vM_down vM_sharesUp vM_sharesDown vM_onUp vM_onDown vM_great vM_triedOff vM_triedLeaked vM_triedKept vM_fitting vM_firstSet vM_inAll vM_inAny vM_at vM_sort vM_from vM_value vM_fault cM_d cM_f cM_came cM_got cM_held cM_off cM_gets u4.2) rfl rfl rfl rfl rfl (by decide +kernel) rfl rfl (Nat.le_of_ble_eq_true rfl) ⟨Nat.zero_le _, Nat.zero_le _⟩ dX8_place_14 (fun H locs hP hD hS => ?_)
    refine lv_goto (tgt := 31) hx hb dX8_place_17 (by decide) ?_
    obtain rfl := Option.some.inj h
    exact hret _ _ _ _ _ hP hD hS dX8_place_31 rfl rfl
/-! ===== X8_kindFor ===== -/
def w_X8_kindFor (cyI cyJ cyZ cyB cyO : ClassId) (aM aM_d aM_f aM_came aM_got aM_held aM_off aM_gets aM_found aM_e aM_kept aM_tape aM_comesUp aM_comesDown aM_path aM_gotNow aM_bitsOf aM_sizeOf aM_number aM_passing : Nat) (vM_isKept : Int32) (vM_taped : Int32) (vM_leaked : Int32) (vM_keptAll : Int32) (vM_offAll : Int32) (vM_up : Int64) (vM_down : Int64) (vM_sharesUp : Int64) (vM_sharesDown : Int64) (vM_onUp : Int64) (vM_onDown : Int64) (vM_great : Int32) (vM_triedOff : Int32) (vM_triedLeaked : Int32) (vM_triedKept : Int32) (vM_fitting : Int32) (vM_firstSet : Int32) (vM_inAll : Int32) (vM_inAny : Int32) (vM_at : Int32) (vM_sort : Int32) (vM_from : Int32) (vM_value : Int64) (vM_fault : Int32) (cM_d : Nat → Int32) (cM_f : Nat → Int32) (cM_came : Nat → Int32) (cM_got : Nat → Int32) (cM_held : Nat → Int32) (cM_off : Nat → Int32) (cM_gets : Nat → Int32) (cM_found : Nat → Int32) : va_W := [(aM, .inr (7, [.ref aM_d, .ref aM_e, .ref aM_f, .ref aM_kept, .int vM_isKept, .ref aM_found, .ref aM_tape, .int vM_taped, .ref aM_came, .ref aM_got, .ref aM_held, .ref aM_off, .int vM_leaked, .int vM_keptAll, .int vM_offAll, .ref aM_comesUp, .ref aM_comesDown, .long vM_up, .long vM_down, .long vM_sharesUp, .long vM_sharesDown, .long vM_onUp, .long vM_onDown, .int vM_great, .ref aM_path, .ref aM_gets, .int vM_triedOff, .int vM_triedLeaked, .int vM_triedKept, .ref aM_gotNow, .int vM_fitting, .int vM_firstSet, .int vM_inAll, .int vM_inAny, .int vM_at, .int vM_sort, .int vM_from, .long vM_value, .int vM_fault, .ref aM_bitsOf, .ref aM_sizeOf, .ref aM_number, .ref aM_passing])), (aM_d, .inl (cyI, 64, .inl cM_d)), (aM_f, .inl (cyI, 64, .inl cM_f)), (aM_came, .inl (cyI, 10, .inl cM_came)), (aM_got, .inl (cyI, 10, .inl cM_got)), (aM_held, .inl (cyI, 10, .inl cM_held)), (aM_off, .inl (cyI, 10, .inl cM_off)), (aM_gets, .inl (cyI, 10, .inl cM_gets)), (aM_found, .inl (cyI, 7, .inl cM_found))]
set_option maxHeartbeats 4000000 in
set_option maxRecDepth 100000 in
theorem t_X8_kindFor (l : Launch) (D : va_G) (cyI cyJ cyZ cyB cyO : ClassId) (aM aM_d aM_f aM_came aM_got aM_held aM_off aM_gets aM_found aM_e aM_kept aM_tape aM_comesUp aM_comesDown aM_path aM_gotNow aM_bitsOf aM_sizeOf aM_number aM_passing : Nat) (vM_isKept : Int32) (vM_taped : Int32) (vM_leaked : Int32) (vM_keptAll : Int32) (vM_offAll : Int32) (vM_up : Int64) (vM_down : Int64) (vM_sharesUp : Int64) (vM_sharesDown : Int64) (vM_onUp : Int64) (vM_onDown : Int64) (vM_great : Int32) (vM_triedOff : Int32) (vM_triedLeaked : Int32) (vM_triedKept : Int32) (vM_fitting : Int32) (vM_firstSet : Int32) (vM_inAll : Int32) (vM_inAny : Int32) (vM_at : Int32) (vM_sort : Int32) (vM_from : Int32) (vM_value : Int64) (vM_fault : Int32) (cM_d : Nat → Int32) (cM_f : Nat → Int32) (cM_came : Nat → Int32) (cM_got : Nat → Int32) (cM_held : Nat → Int32) (cM_off : Nat → Int32) (cM_gets : Nat → Int32) (cM_found : Nat → Int32) (x1 : Int32) (x2 : Int32) (out : Int32 × Int32 × Int32 × Int32 × Int32 × Int32 × Int32 × (Nat → Int32) × (Nat → Int32) × (Nat → Int32) × (Nat → Int32) × (Nat → Int32) × (Nat → Int32) × (Nat → Int32) × (Nat → Int32)) (h : f_X8_kindFor x1 x2 vM_leaked vM_keptAll vM_offAll vM_triedOff vM_triedLeaked vM_triedKept cM_d cM_f cM_came cM_got cM_held cM_off cM_gets cM_found = some out) : Mi l yX8_kindFor wsX8_kindFor ({ frames := 6, cells := 0, slots := 0, locals := 147 } : Room) D (tyA cyI cyJ cyZ cyB cyO) [.ref aM, .int x1, .int x2] (w_X8_kindFor cyI cyJ cyZ cyB cyO aM aM_d aM_f aM_came aM_got aM_held aM_off aM_gets aM_found aM_e aM_kept aM_tape aM_comesUp aM_comesDown aM_path aM_gotNow aM_bitsOf aM_sizeOf aM_number aM_passing vM_isKept vM_taped vM_leaked vM_keptAll vM_offAll vM_up vM_down vM_sharesUp vM_sharesDown vM_onUp vM_onDown vM_great vM_triedOff vM_triedLeaked vM_triedKept vM_fitting vM_firstSet vM_inAll vM_inAny vM_at vM_sort vM_from vM_value vM_fault cM_d cM_f cM_came cM_got cM_held cM_off cM_gets cM_found) (w_X8_kindFor cyI cyJ cyZ cyB cyO aM aM_d aM_f aM_came aM_got aM_held aM_off aM_gets aM_found aM_e aM_kept aM_tape aM_comesUp aM_comesDown aM_path aM_gotNow aM_bitsOf aM_sizeOf aM_number aM_passing vM_isKept vM_taped out.2.1 out.2.2.1 out.2.2.2.1 vM_up vM_down vM_sharesUp vM_sharesDown vM_onUp vM_onDown vM_great out.2.2.2.2.1 out.2.2.2.2.2.1 out.2.2.2.2.2.2.1 vM_fitting vM_firstSet vM_inAll vM_inAny vM_at vM_sort vM_from vM_value vM_fault out.2.2.2.2.2.2.2.1 out.2.2.2.2.2.2.2.2.1 out.2.2.2.2.2.2.2.2.2.1 out.2.2.2.2.2.2.2.2.2.2.1 out.2.2.2.2.2.2.2.2.2.2.2.1 out.2.2.2.2.2.2.2.2.2.2.2.2.1 out.2.2.2.2.2.2.2.2.2.2.2.2.2.1 out.2.2.2.2.2.2.2.2.2.2.2.2.2.2) out.1 := by
  refine Mi.mk (cc := cX8_kindFor) (maxL := 4) (rt := .int) (own := RX8) (by decide) rfl rfl (Nat.le_of_ble_eq_true rfl) ?_
  intro p e s m args below meth c A Q F hK hP hD hA hret ls hl
  obtain ⟨hx, hb, hml, hown, hts⟩ := id F
  have hS : va_S A s.heap s.heap [] := va_S.rf
  have hl : lv_has ls 4 [(0, .ref aM), (1, .int x1), (2, .int x2)] := hl
  have q1 := hts (Cond.methodLink RX8 229 yX8_why) (List.mem_of_getElem? (i := 1) rfl)
  have q25 := hts (Cond.methodLink RX8 232 yX8_bestOf) (List.mem_of_getElem? (i := 25) rfl)
  have q19 := hts (Cond.methodLink RX8 115 yX8_finds) (List.mem_of_getElem? (i := 19) rfl)
  unfold f_X8_kindFor at h
  refine lv_aload_n hx hb dX8_kindFor_0 rfl (lv_at hl 0 rfl) ?_
  refine lv_iload_n hx hb dX8_kindFor_1 rfl (lv_at hl 1 rfl) ?_
  refine lv_iload_n hx hb dX8_kindFor_2 rfl (lv_at hl 2 rfl) ?_
  refine lv_iconst (v := 0) hx hb dX8_kindFor_3 (by decide) ?_
  obtain ⟨u1, hu1, h⟩ := bd_some h
  refine cl_Vi (rest := []) F hK hP hD hS hA hl (t_X8_why l D cyI cyJ cyZ cyB cyO aM aM_d aM_e aM_f aM_kept aM_found aM_tape aM_came aM_got aM_held aM_off aM_comesUp aM_comesDown aM_path aM_gets aM_gotNow aM_bitsOf aM_sizeOf aM_number aM_passing vM_isKept vM_taped vM_leaked vM_keptAll vM_offAll vM_up vM_down vM_sharesUp vM_sharesDown vM_onUp vM_onDown vM_great vM_triedOff vM_triedLeaked vM_triedKept vM_fitting vM_firstSet vM_inAll vM_inAny vM_at vM_sort vM_from vM_value vM_fault cM_d x1 x2 (0 : Int32) u1 hu1) (cwV 3 hts gX8_kindFor_X8_why rfl rfl rfl (by decide +kernel) ⟨Nat.le_of_ble_eq_true rfl, Nat.le_of_ble_eq_true rfl⟩) 0 [0, 1] [1, 2, 0, 0, 0, 0, 0, 0, 0] [] (w_X8_kindFor cyI cyJ cyZ cyB cyO aM aM_d aM_f aM_came aM_got aM_held aM_off aM_gets aM_found aM_e aM_kept aM_tape aM_comesUp aM_comesDown aM_path aM_gotNow aM_bitsOf aM_sizeOf aM_number aM_passing vM_isKept vM_taped vM_leaked vM_keptAll vM_offAll vM_up vM_down vM_sharesUp vM_sharesDown vM_onUp vM_onDown vM_great vM_triedOff vM_triedLeaked vM_triedKept vM_fitting vM_firstSet vM_inAll vM_inAny vM_at vM_sort vM_from vM_value vM_fault cM_d cM_f cM_came cM_got cM_held cM_off cM_gets cM_found) rfl rfl rfl rfl rfl (by decide +kernel) rfl rfl (Nat.le_of_ble_eq_true rfl) ⟨Nat.zero_le _, Nat.zero_le _⟩ dX8_kindFor_4 (fun H locs hP hD hS => ?_)
  refine lv_istore_n (lv' := [(3, .int u1), (0, .ref aM), (1, .int x1), (2, .int x2)]) hx hb dX8_kindFor_7 rfl hl (by decide) rfl (fun ls hl => ?_)
  refine lv_iload_n hx hb dX8_kindFor_8 rfl (lv_at hl 0 rfl) ?_
  refine lv_if_lt (tgt := 20) hx hb dX8_kindFor_9 (by decide) (fun c2 => ?_) (fun c2 => ?_)
  · have h := br_pos c2 h
    refine lv_aload_n hx hb dX8_kindFor_20 rfl (lv_at hl 1 rfl) ?_
    refine lv_iload_n hx hb dX8_kindFor_21 rfl (lv_at hl 2 rfl) ?_
    refine lv_iload_n hx hb dX8_kindFor_22 rfl (lv_at hl 3 rfl) ?_
    refine lv_iconst (v := 0) hx hb dX8_kindFor_23 (by decide) ?_
    refine lv_iconst (v := 0) hx hb dX8_kindFor_24 (by decide) ?_
    refine lv_bipush (v := 6) hx hb dX8_kindFor_25 (by decide) ?_
    obtain ⟨u3, hu3, h⟩ := bd_some h
    refine cl_Vi (rest := []) F hK hP hD hS hA hl (t_X8_bestOf l D cyI cyJ cyZ cyB cyO aM aM_d aM_f aM_came aM_got aM_held aM_off aM_gets aM_e aM_kept aM_found aM_tape aM_comesUp aM_comesDown aM_path aM_gotNow aM_bitsOf aM_sizeOf aM_number aM_passing vM_isKept vM_taped vM_leaked vM_keptAll vM_offAll vM_up vM_down vM_sharesUp vM_sharesDown vM_onUp vM_onDown vM_great vM_triedOff vM_triedLeaked vM_triedKept vM_fitting vM_firstSet vM_inAll vM_inAny vM_at vM_sort vM_from vM_value vM_fault cM_d cM_f cM_came cM_got cM_held cM_off cM_gets x1 x2 (0 : Int32) (0 : Int32) (6 : Int32) u3 hu3) (cwV 5 hts gX8_kindFor_X8_bestOf rfl rfl rfl (by decide +kernel) ⟨Nat.le_of_ble_eq_true rfl, Nat.le_of_ble_eq_true rfl⟩) 0 [0, 1, 2, 3, 4, 5, 6, 7] [1, 2, 3, 4, 5, 6, 7, 8, 0] [] (w_X8_kindFor cyI cyJ cyZ cyB cyO aM aM_d aM_f aM_came aM_got aM_held aM_off aM_gets aM_found aM_e aM_kept aM_tape aM_comesUp aM_comesDown aM_path aM_gotNow aM_bitsOf aM_sizeOf aM_number aM_passing vM_isKept vM_taped u3.2.1 u3.2.2.1 u3.2.2.2.1 vM_up vM_down vM_sharesUp vM_sharesDown vM_onUp vM_onDown vM_great u3.2.2.2.2.1 u3.2.2.2.2.2.1 u3.2.2.2.2.2.2.1 vM_fitting vM_firstSet vM_inAll vM_inAny vM_at vM_sort vM_from vM_value vM_fault u3.2.2.2.2.2.2.2.1 u3.2.2.2.2.2.2.2.2.1 u3.2.2.2.2.2.2.2.2.2.1 u3.2.2.2.2.2.2.2.2.2.2.1 u3.2.2.2.2.2.2.2.2.2.2.2.1 u3.2.2.2.2.2.2.2.2.2.2.2.2.1 u3.2.2.2.2.2.2.2.2.2.2.2.2.2 cM_found) rfl rfl rfl rfl rfl (by decide +kernel) rfl rfl (Nat.le_of_ble_eq_true rfl) ⟨Nat.zero_le _, Nat.zero_le _⟩ dX8_kindFor_27 (fun H locs hP hD hS => ?_)
    obtain rfl := Option.some.inj h
    exact hret _ _ _ _ _ hP hD hS dX8_kindFor_30 rfl rfl
  · have h := br_neg c2 h
    refine lv_aload_n hx hb dX8_kindFor_12 rfl (lv_at hl 1 rfl) ?_
    refine lv_iload_n hx hb dX8_kindFor_13 rfl (lv_at hl 0 rfl) ?_
    obtain ⟨u4, hu4, h⟩ := bd_some h
    refine cl_Vi (rest := []) F hK hP hD hS hA hl (t_X8_finds l D cyI cyJ cyZ cyB cyO aM aM_found aM_d aM_e aM_f aM_kept aM_tape aM_came aM_got aM_held aM_off aM_comesUp aM_comesDown aM_path aM_gets aM_gotNow aM_bitsOf aM_sizeOf aM_number aM_passing vM_isKept vM_taped vM_leaked vM_keptAll vM_offAll vM_up vM_down vM_sharesUp vM_sharesDown vM_onUp vM_onDown vM_great vM_triedOff vM_triedLeaked vM_triedKept vM_fitting vM_firstSet vM_inAll vM_inAny vM_at vM_sort vM_from vM_value vM_fault cM_found u1 u4 hu4) (cwV 1 hts gX8_kindFor_X8_finds rfl rfl rfl (by decide +kernel) ⟨Nat.le_of_ble_eq_true rfl, Nat.le_of_ble_eq_true rfl⟩) 0 [0, 8] [1, 0, 0, 0, 0, 0, 0, 0, 2] [] (w_X8_kindFor cyI cyJ cyZ cyB cyO aM aM_d aM_f aM_came aM_got aM_held aM_off aM_gets aM_found aM_e aM_kept aM_tape aM_comesUp aM_comesDown aM_path aM_gotNow aM_bitsOf aM_sizeOf aM_number aM_passing vM_isKept vM_taped vM_leaked vM_keptAll vM_offAll vM_up vM_down vM_sharesUp vM_sharesDown vM_onUp vM_onDown vM_great vM_triedOff vM_triedLeaked vM_triedKept vM_fitting vM_firstSet vM_inAll vM_inAny vM_at vM_sort vM_from vM_value vM_fault cM_d cM_f cM_came cM_got cM_held cM_off cM_gets u4.2) rfl rfl rfl rfl rfl (by decide +kernel) rfl rfl (Nat.le_of_ble_eq_true rfl) ⟨Nat.zero_le _, Nat.zero_le _⟩ dX8_kindFor_14 (fun H locs hP hD hS => ?_)
    refine lv_goto (tgt := 30) hx hb dX8_kindFor_17 (by decide) ?_
    obtain rfl := Option.some.inj h
    exact hret _ _ _ _ _ hP hD hS dX8_kindFor_30 rfl rfl
/-! ===== X8_keepGets ===== -/
def w_X8_keepGets (cyI cyJ cyZ cyB cyO : ClassId) (aM aM_d aM_f aM_came aM_got aM_held aM_off aM_gets aM_gotNow aM_e aM_kept aM_found aM_tape aM_comesUp aM_comesDown aM_path aM_bitsOf aM_sizeOf aM_number aM_passing : Nat) (vM_isKept : Int32) (vM_taped : Int32) (vM_leaked : Int32) (vM_keptAll : Int32) (vM_offAll : Int32) (vM_up : Int64) (vM_down : Int64) (vM_sharesUp : Int64) (vM_sharesDown : Int64) (vM_onUp : Int64) (vM_onDown : Int64) (vM_great : Int32) (vM_triedOff : Int32) (vM_triedLeaked : Int32) (vM_triedKept : Int32) (vM_fitting : Int32) (vM_firstSet : Int32) (vM_inAll : Int32) (vM_inAny : Int32) (vM_at : Int32) (vM_sort : Int32) (vM_from : Int32) (vM_value : Int64) (vM_fault : Int32) (cM_d : Nat → Int32) (cM_f : Nat → Int32) (cM_came : Nat → Int32) (cM_got : Nat → Int32) (cM_held : Nat → Int32) (cM_off : Nat → Int32) (cM_gets : Nat → Int32) (cM_gotNow : Nat → Int32) : va_W := [(aM, .inr (7, [.ref aM_d, .ref aM_e, .ref aM_f, .ref aM_kept, .int vM_isKept, .ref aM_found, .ref aM_tape, .int vM_taped, .ref aM_came, .ref aM_got, .ref aM_held, .ref aM_off, .int vM_leaked, .int vM_keptAll, .int vM_offAll, .ref aM_comesUp, .ref aM_comesDown, .long vM_up, .long vM_down, .long vM_sharesUp, .long vM_sharesDown, .long vM_onUp, .long vM_onDown, .int vM_great, .ref aM_path, .ref aM_gets, .int vM_triedOff, .int vM_triedLeaked, .int vM_triedKept, .ref aM_gotNow, .int vM_fitting, .int vM_firstSet, .int vM_inAll, .int vM_inAny, .int vM_at, .int vM_sort, .int vM_from, .long vM_value, .int vM_fault, .ref aM_bitsOf, .ref aM_sizeOf, .ref aM_number, .ref aM_passing])), (aM_d, .inl (cyI, 64, .inl cM_d)), (aM_f, .inl (cyI, 64, .inl cM_f)), (aM_came, .inl (cyI, 10, .inl cM_came)), (aM_got, .inl (cyI, 10, .inl cM_got)), (aM_held, .inl (cyI, 10, .inl cM_held)), (aM_off, .inl (cyI, 10, .inl cM_off)), (aM_gets, .inl (cyI, 10, .inl cM_gets)), (aM_gotNow, .inl (cyI, 10, .inl cM_gotNow))]
set_option maxHeartbeats 4000000 in
set_option maxRecDepth 100000 in
theorem t_X8_keepGets (l : Launch) (D : va_G) (cyI cyJ cyZ cyB cyO : ClassId) (aM aM_d aM_f aM_came aM_got aM_held aM_off aM_gets aM_gotNow aM_e aM_kept aM_found aM_tape aM_comesUp aM_comesDown aM_path aM_bitsOf aM_sizeOf aM_number aM_passing : Nat) (vM_isKept : Int32) (vM_taped : Int32) (vM_leaked : Int32) (vM_keptAll : Int32) (vM_offAll : Int32) (vM_up : Int64) (vM_down : Int64) (vM_sharesUp : Int64) (vM_sharesDown : Int64) (vM_onUp : Int64) (vM_onDown : Int64) (vM_great : Int32) (vM_triedOff : Int32) (vM_triedLeaked : Int32) (vM_triedKept : Int32) (vM_fitting : Int32) (vM_firstSet : Int32) (vM_inAll : Int32) (vM_inAny : Int32) (vM_at : Int32) (vM_sort : Int32) (vM_from : Int32) (vM_value : Int64) (vM_fault : Int32) (cM_d : Nat → Int32) (cM_f : Nat → Int32) (cM_came : Nat → Int32) (cM_got : Nat → Int32) (cM_held : Nat → Int32) (cM_off : Nat → Int32) (cM_gets : Nat → Int32) (cM_gotNow : Nat → Int32) (x1 : Int32) (out : Int32 × Int32 × Int32 × Int32 × Int32 × Int32 × (Nat → Int32) × (Nat → Int32) × (Nat → Int32) × (Nat → Int32) × (Nat → Int32) × (Nat → Int32) × (Nat → Int32) × (Nat → Int32)) (h : f_X8_keepGets x1 vM_leaked vM_keptAll vM_offAll vM_triedOff vM_triedLeaked vM_triedKept cM_d cM_f cM_came cM_got cM_held cM_off cM_gets cM_gotNow = some out) : Mv l yX8_keepGets wsX8_keepGets ({ frames := 5, cells := 0, slots := 0, locals := 118 } : Room) D (tyA cyI cyJ cyZ cyB cyO) [.ref aM, .int x1] (w_X8_keepGets cyI cyJ cyZ cyB cyO aM aM_d aM_f aM_came aM_got aM_held aM_off aM_gets aM_gotNow aM_e aM_kept aM_found aM_tape aM_comesUp aM_comesDown aM_path aM_bitsOf aM_sizeOf aM_number aM_passing vM_isKept vM_taped vM_leaked vM_keptAll vM_offAll vM_up vM_down vM_sharesUp vM_sharesDown vM_onUp vM_onDown vM_great vM_triedOff vM_triedLeaked vM_triedKept vM_fitting vM_firstSet vM_inAll vM_inAny vM_at vM_sort vM_from vM_value vM_fault cM_d cM_f cM_came cM_got cM_held cM_off cM_gets cM_gotNow) (w_X8_keepGets cyI cyJ cyZ cyB cyO aM aM_d aM_f aM_came aM_got aM_held aM_off aM_gets aM_gotNow aM_e aM_kept aM_found aM_tape aM_comesUp aM_comesDown aM_path aM_bitsOf aM_sizeOf aM_number aM_passing vM_isKept vM_taped out.1 out.2.1 out.2.2.1 vM_up vM_down vM_sharesUp vM_sharesDown vM_onUp vM_onDown vM_great out.2.2.2.1 out.2.2.2.2.1 out.2.2.2.2.2.1 vM_fitting vM_firstSet vM_inAll vM_inAny vM_at vM_sort vM_from vM_value vM_fault out.2.2.2.2.2.2.1 out.2.2.2.2.2.2.2.1 out.2.2.2.2.2.2.2.2.1 out.2.2.2.2.2.2.2.2.2.1 out.2.2.2.2.2.2.2.2.2.2.1 out.2.2.2.2.2.2.2.2.2.2.2.1 out.2.2.2.2.2.2.2.2.2.2.2.2.1 out.2.2.2.2.2.2.2.2.2.2.2.2.2) := by
  refine Mv.mk (cc := cX8_keepGets) (maxL := 3) (own := RX8) (by decide) rfl rfl (Nat.le_of_ble_eq_true rfl) ?_
  intro p e s m args below meth c A Q F hK hP hD hA hret ls hl
  obtain ⟨hx, hb, hml, hown, hts⟩ := id F
  have hS : va_S A s.heap s.heap [] := va_S.rf
  have hl : lv_has ls 3 [(0, .ref aM), (1, .int x1)] := hl
  have in_X8 : ∀ w ∈ wsX80, w ∈ wsX8_keepGets := by decide +kernel
  have q3 := hts (Cond.methodLink RX8 224 yX8_tries) (List.mem_of_getElem? (i := 3) rfl)
  have q1 := hts (Cond.fieldLink RX8 54 "ThirdFountainModel" "gotNow" "[I") (List.mem_of_getElem? (i := 1) rfl)
  have q2 := hts (Cond.fieldLink RX8 51 "ThirdFountainModel" "gets" "[I") (List.mem_of_getElem? (i := 2) rfl)
  unfold f_X8_keepGets at h
  refine lv_aload_n hx hb dX8_keepGets_0 rfl (lv_at hl 0 rfl) ?_
  refine lv_iload_n hx hb dX8_keepGets_1 rfl (lv_at hl 1 rfl) ?_
  obtain ⟨u1, hu1, h⟩ := bd_some h
  refine cl_Vv (rest := []) F hK hP hD hS hA hl (t_X8_tries l D cyI cyJ cyZ cyB cyO aM aM_d aM_f aM_came aM_got aM_held aM_off aM_gets aM_e aM_kept aM_found aM_tape aM_comesUp aM_comesDown aM_path aM_gotNow aM_bitsOf aM_sizeOf aM_number aM_passing vM_isKept vM_taped vM_leaked vM_keptAll vM_offAll vM_up vM_down vM_sharesUp vM_sharesDown vM_onUp vM_onDown vM_great vM_triedOff vM_triedLeaked vM_triedKept vM_fitting vM_firstSet vM_inAll vM_inAny vM_at vM_sort vM_from vM_value vM_fault cM_d cM_f cM_came cM_got cM_held cM_off cM_gets x1 u1 hu1) (cwV 1 hts gX8_keepGets_X8_tries rfl rfl rfl (by decide +kernel) ⟨Nat.le_of_ble_eq_true rfl, Nat.le_of_ble_eq_true rfl⟩) 0 [0, 1, 2, 3, 4, 5, 6, 7] [1, 2, 3, 4, 5, 6, 7, 8, 0] [] (w_X8_keepGets cyI cyJ cyZ cyB cyO aM aM_d aM_f aM_came aM_got aM_held aM_off aM_gets aM_gotNow aM_e aM_kept aM_found aM_tape aM_comesUp aM_comesDown aM_path aM_bitsOf aM_sizeOf aM_number aM_passing vM_isKept vM_taped u1.1 u1.2.1 u1.2.2.1 vM_up vM_down vM_sharesUp vM_sharesDown vM_onUp vM_onDown vM_great u1.2.2.2.1 u1.2.2.2.2.1 u1.2.2.2.2.2.1 vM_fitting vM_firstSet vM_inAll vM_inAny vM_at vM_sort vM_from vM_value vM_fault u1.2.2.2.2.2.2.1 u1.2.2.2.2.2.2.2.1 u1.2.2.2.2.2.2.2.2.1 u1.2.2.2.2.2.2.2.2.2.1 u1.2.2.2.2.2.2.2.2.2.2.1 u1.2.2.2.2.2.2.2.2.2.2.2.1 u1.2.2.2.2.2.2.2.2.2.2.2.2 cM_gotNow) rfl rfl rfl rfl rfl (by decide +kernel) rfl rfl (Nat.le_of_ble_eq_true rfl) ⟨Nat.zero_le _, Nat.zero_le _⟩ dX8_keepGets_2 (fun H locs hP hD hS => ?_)
  refine lv_iconst (v := 0) hx hb dX8_keepGets_5 (by decide) ?_
  refine lv_istore_n (lv' := [(2, .int (0 : Int32)), (0, .ref aM), (1, .int x1)]) hx hb dX8_keepGets_6 rfl hl (by decide) rfl (fun ls hl => ?_)
  have lp7 : ∀ (k7 : Nat) (y2 : Int32) (vM_leaked : Int32) (vM_keptAll : Int32) (vM_offAll : Int32) (vM_triedOff : Int32) (vM_triedLeaked : Int32) (vM_triedKept : Int32) (cM_d : Nat → Int32) (cM_f : Nat → Int32) (cM_came : Nat → Int32) (cM_got : Nat → Int32) (cM_held : Nat → Int32) (cM_off : Nat → Int32) (cM_gets : Nat → Int32) (cM_gotNow : Nat → Int32) (H : Heap) (locs : List Loc) (ls : Array Slot), va_P D vwCl (w_X8_keepGets cyI cyJ cyZ cyB cyO aM aM_d aM_f aM_came aM_got aM_held aM_off aM_gets aM_gotNow aM_e aM_kept aM_found aM_tape aM_comesUp aM_comesDown aM_path aM_bitsOf aM_sizeOf aM_number aM_passing vM_isKept vM_taped vM_leaked vM_keptAll vM_offAll vM_up vM_down vM_sharesUp vM_sharesDown vM_onUp vM_onDown vM_great vM_triedOff vM_triedLeaked vM_triedKept vM_fitting vM_firstSet vM_inAll vM_inAny vM_at vM_sort vM_from vM_value vM_fault cM_d cM_f cM_came cM_got cM_held cM_off cM_gets cM_gotNow) H → va_D A (w_X8_keepGets cyI cyJ cyZ cyB cyO aM aM_d aM_f aM_came aM_got aM_held aM_off aM_gets aM_gotNow aM_e aM_kept aM_found aM_tape aM_comesUp aM_comesDown aM_path aM_bitsOf aM_sizeOf aM_number aM_passing vM_isKept vM_taped vM_leaked vM_keptAll vM_offAll vM_up vM_down vM_sharesUp vM_sharesDown vM_onUp vM_onDown vM_great vM_triedOff vM_triedLeaked vM_triedKept vM_fitting vM_firstSet vM_inAll vM_inAny vM_at vM_sort vM_from vM_value vM_fault cM_d cM_f cM_came cM_got cM_held cM_off cM_gets cM_gotNow) → va_S A s.heap H locs → lv_has ls 3 [(2, .int y2), (0, .ref aM)] → (f_X8_keepGets_L7 x1 k7) (y2, vM_leaked, vM_keptAll, vM_offAll, vM_triedOff, vM_triedLeaked, vM_triedKept, cM_d, cM_f, cM_came, cM_got, cM_held, cM_off, cM_gets, cM_gotNow) = some out → W p l e ({ frames := 5, cells := 0, slots := 0, locals := 118 } : Room) s m args below meth c H locs 0 0 Q (F0 m 7 ls []) := by
    intro k7
    induction k7 with
    | zero => intro y2 vM_leaked vM_keptAll vM_offAll vM_triedOff vM_triedLeaked vM_triedKept cM_d cM_f cM_came cM_got cM_held cM_off cM_gets cM_gotNow H locs ls hP hD hS hl h; cases h
    | succ k7 ih7 =>
      intro y2 vM_leaked vM_keptAll vM_offAll vM_triedOff vM_triedLeaked vM_triedKept cM_d cM_f cM_came cM_got cM_held cM_off cM_gets cM_gotNow H locs ls hP hD hS hl h
      have h : f_X8_keepGets_L7_b x1 (f_X8_keepGets_L7 x1 k7) y2 vM_leaked vM_keptAll vM_offAll vM_triedOff vM_triedLeaked vM_triedKept cM_d cM_f cM_came cM_got cM_held cM_off cM_gets cM_gotNow = some out := h
      unfold f_X8_keepGets_L7_b at h
      refine lv_iload_n hx hb dX8_keepGets_7 rfl (lv_at hl 0 rfl) ?_
      refine lv_bipush (v := 10) hx hb dX8_keepGets_8 (by decide) ?_
      refine lv_icmp_ge (tgt := 31) hx hb dX8_keepGets_10 (by decide) (fun c2 => ?_) (fun c2 => ?_)
      · have h := br_pos c2 h
        obtain rfl := Option.some.inj h
        exact hret _ _ _ _ hP hD hS dX8_keepGets_31 
      · have h := br_neg c2 h
        refine lv_aload_n hx hb dX8_keepGets_13 rfl (lv_at hl 1 rfl) ?_
        refine va_get (D := D) (ci := 7) (v := .ref aM_gotNow) (C := RX8) (T := TX8) (N := 43) hx hb hts in_X8 hown hK hP 0 rfl rfl 29 (by decide) q1 (fun _ h9 => h9) rfl dX8_keepGets_14 ?_
        refine lv_iload_n hx hb dX8_keepGets_17 rfl (lv_at hl 0 rfl) ?_
        refine lv_aload_n hx hb dX8_keepGets_18 rfl (lv_at hl 1 rfl) ?_
        refine va_get (D := D) (ci := 7) (v := .ref aM_gets) (C := RX8) (T := TX8) (N := 43) hx hb hts in_X8 hown hK hP 0 rfl rfl 25 (by decide) q2 (fun _ h9 => h9) rfl dX8_keepGets_19 ?_
        refine lv_iload_n hx hb dX8_keepGets_22 rfl (lv_at hl 0 rfl) ?_
        obtain ⟨g3, h⟩ := gd_some h
        refine va_iald hx hb hK hP 7 0 rfl rfl g3 dX8_keepGets_23 ?_
        obtain ⟨g4, h⟩ := gd_some h
        refine va_iast hx hb hK hP hD hS 8 0 rfl rfl g4 dX8_keepGets_24 (fun H locs hP hD hS => ?_)
        have hP : va_P D vwCl (w_X8_keepGets cyI cyJ cyZ cyB cyO aM aM_d aM_f aM_came aM_got aM_held aM_off aM_gets aM_gotNow aM_e aM_kept aM_found aM_tape aM_comesUp aM_comesDown aM_path aM_bitsOf aM_sizeOf aM_number aM_passing vM_isKept vM_taped vM_leaked vM_keptAll vM_offAll vM_up vM_down vM_sharesUp vM_sharesDown vM_onUp vM_onDown vM_great vM_triedOff vM_triedLeaked vM_triedKept vM_fitting vM_firstSet vM_inAll vM_inAny vM_at vM_sort vM_from vM_value vM_fault cM_d cM_f cM_came cM_got cM_held cM_off cM_gets (upd cM_gotNow y2.toNatClampNeg (cM_gets y2.toNatClampNeg))) H := hP
        have hD : va_D A (w_X8_keepGets cyI cyJ cyZ cyB cyO aM aM_d aM_f aM_came aM_got aM_held aM_off aM_gets aM_gotNow aM_e aM_kept aM_found aM_tape aM_comesUp aM_comesDown aM_path aM_bitsOf aM_sizeOf aM_number aM_passing vM_isKept vM_taped vM_leaked vM_keptAll vM_offAll vM_up vM_down vM_sharesUp vM_sharesDown vM_onUp vM_onDown vM_great vM_triedOff vM_triedLeaked vM_triedKept vM_fitting vM_firstSet vM_inAll vM_inAny vM_at vM_sort vM_from vM_value vM_fault cM_d cM_f cM_came cM_got cM_held cM_off cM_gets (upd cM_gotNow y2.toNatClampNeg (cM_gets y2.toNatClampNeg))) := hD
        refine lv_iinc (v := y2 + 1) (lv' := [(2, .int (y2 + 1)), (0, .ref aM)]) hx hb dX8_keepGets_25 hl (k := 0) rfl rfl (by decide) rfl (fun ls hl => ?_)
        refine lv_goto (tgt := 7) hx hb dX8_keepGets_28 (by decide) ?_
        exact ih7 (y2 + 1) vM_leaked vM_keptAll vM_offAll vM_triedOff vM_triedLeaked vM_triedKept cM_d cM_f cM_came cM_got cM_held cM_off cM_gets (upd cM_gotNow y2.toNatClampNeg (cM_gets y2.toNatClampNeg)) _ _ _ hP hD hS (lv_sub hl [0, 1] rfl) h
  exact lp7 FU (0 : Int32) u1.1 u1.2.1 u1.2.2.1 u1.2.2.2.1 u1.2.2.2.2.1 u1.2.2.2.2.2.1 u1.2.2.2.2.2.2.1 u1.2.2.2.2.2.2.2.1 u1.2.2.2.2.2.2.2.2.1 u1.2.2.2.2.2.2.2.2.2.1 u1.2.2.2.2.2.2.2.2.2.2.1 u1.2.2.2.2.2.2.2.2.2.2.2.1 u1.2.2.2.2.2.2.2.2.2.2.2.2 cM_gotNow _ _ _ hP hD hS (lv_sub hl [0, 1] rfl) h
/-! ===== X8_getting ===== -/
def w_X8_getting (cyI cyJ cyZ cyB cyO : ClassId) (aM aM_d aM_gets aM_gotNow aM_e aM_f aM_kept aM_found aM_tape aM_came aM_got aM_held aM_off aM_comesUp aM_comesDown aM_path aM_bitsOf aM_sizeOf aM_number aM_passing : Nat) (vM_isKept : Int32) (vM_taped : Int32) (vM_leaked : Int32) (vM_keptAll : Int32) (vM_offAll : Int32) (vM_up : Int64) (vM_down : Int64) (vM_sharesUp : Int64) (vM_sharesDown : Int64) (vM_onUp : Int64) (vM_onDown : Int64) (vM_great : Int32) (vM_triedOff : Int32) (vM_triedLeaked : Int32) (vM_triedKept : Int32) (vM_fitting : Int32) (vM_firstSet : Int32) (vM_inAll : Int32) (vM_inAny : Int32) (vM_at : Int32) (vM_sort : Int32) (vM_from : Int32) (vM_value : Int64) (vM_fault : Int32) (cM_d : Nat → Int32) (cM_gets : Nat → Int32) (cM_gotNow : Nat → Int32) : va_W := [(aM, .inr (7, [.ref aM_d, .ref aM_e, .ref aM_f, .ref aM_kept, .int vM_isKept, .ref aM_found, .ref aM_tape, .int vM_taped, .ref aM_came, .ref aM_got, .ref aM_held, .ref aM_off, .int vM_leaked, .int vM_keptAll, .int vM_offAll, .ref aM_comesUp, .ref aM_comesDown, .long vM_up, .long vM_down, .long vM_sharesUp, .long vM_sharesDown, .long vM_onUp, .long vM_onDown, .int vM_great, .ref aM_path, .ref aM_gets, .int vM_triedOff, .int vM_triedLeaked, .int vM_triedKept, .ref aM_gotNow, .int vM_fitting, .int vM_firstSet, .int vM_inAll, .int vM_inAny, .int vM_at, .int vM_sort, .int vM_from, .long vM_value, .int vM_fault, .ref aM_bitsOf, .ref aM_sizeOf, .ref aM_number, .ref aM_passing])), (aM_d, .inl (cyI, 64, .inl cM_d)), (aM_gets, .inl (cyI, 10, .inl cM_gets)), (aM_gotNow, .inl (cyI, 10, .inl cM_gotNow))]
set_option maxHeartbeats 4000000 in
set_option maxRecDepth 100000 in
theorem t_X8_getting (l : Launch) (D : va_G) (cyI cyJ cyZ cyB cyO : ClassId) (aM aM_d aM_gets aM_gotNow aM_e aM_f aM_kept aM_found aM_tape aM_came aM_got aM_held aM_off aM_comesUp aM_comesDown aM_path aM_bitsOf aM_sizeOf aM_number aM_passing : Nat) (vM_isKept : Int32) (vM_taped : Int32) (vM_leaked : Int32) (vM_keptAll : Int32) (vM_offAll : Int32) (vM_up : Int64) (vM_down : Int64) (vM_sharesUp : Int64) (vM_sharesDown : Int64) (vM_onUp : Int64) (vM_onDown : Int64) (vM_great : Int32) (vM_triedOff : Int32) (vM_triedLeaked : Int32) (vM_triedKept : Int32) (vM_fitting : Int32) (vM_firstSet : Int32) (vM_inAll : Int32) (vM_inAny : Int32) (vM_at : Int32) (vM_sort : Int32) (vM_from : Int32) (vM_value : Int64) (vM_fault : Int32) (cM_d : Nat → Int32) (cM_gets : Nat → Int32) (cM_gotNow : Nat → Int32) (x1 : Int32) (out : Int32) (h : f_X8_getting x1 cM_d cM_gets cM_gotNow = some out) : Mi l yX8_getting wsX8_getting ({ frames := 0, cells := 0, slots := 0, locals := 0 } : Room) D (tyA cyI cyJ cyZ cyB cyO) [.ref aM, .int x1] (w_X8_getting cyI cyJ cyZ cyB cyO aM aM_d aM_gets aM_gotNow aM_e aM_f aM_kept aM_found aM_tape aM_came aM_got aM_held aM_off aM_comesUp aM_comesDown aM_path aM_bitsOf aM_sizeOf aM_number aM_passing vM_isKept vM_taped vM_leaked vM_keptAll vM_offAll vM_up vM_down vM_sharesUp vM_sharesDown vM_onUp vM_onDown vM_great vM_triedOff vM_triedLeaked vM_triedKept vM_fitting vM_firstSet vM_inAll vM_inAny vM_at vM_sort vM_from vM_value vM_fault cM_d cM_gets cM_gotNow) (w_X8_getting cyI cyJ cyZ cyB cyO aM aM_d aM_gets aM_gotNow aM_e aM_f aM_kept aM_found aM_tape aM_came aM_got aM_held aM_off aM_comesUp aM_comesDown aM_path aM_bitsOf aM_sizeOf aM_number aM_passing vM_isKept vM_taped vM_leaked vM_keptAll vM_offAll vM_up vM_down vM_sharesUp vM_sharesDown vM_onUp vM_onDown vM_great vM_triedOff vM_triedLeaked vM_triedKept vM_fitting vM_firstSet vM_inAll vM_inAny vM_at vM_sort vM_from vM_value vM_fault cM_d cM_gets cM_gotNow) out := by
  refine Mi.mk (cc := cX8_getting) (maxL := 5) (rt := .int) (own := RX8) (by decide) rfl rfl (Nat.le_of_ble_eq_true rfl) ?_
  intro p e s m args below meth c A Q F hK hP hD hA hret ls hl
  obtain ⟨hx, hb, hml, hown, hts⟩ := id F
  have hS : va_S A s.heap s.heap [] := va_S.rf
  have hl : lv_has ls 5 [(0, .ref aM), (1, .int x1)] := hl
  have in_X8 : ∀ w ∈ wsX80, w ∈ wsX8_getting := by decide +kernel
  have q1 := hts (Cond.fieldLink RX8 7 "ThirdFountainModel" "d" "[I") (List.mem_of_getElem? (i := 1) rfl)
  have q2 := hts (Cond.fieldLink RX8 51 "ThirdFountainModel" "gets" "[I") (List.mem_of_getElem? (i := 2) rfl)
  have q3 := hts (Cond.fieldLink RX8 54 "ThirdFountainModel" "gotNow" "[I") (List.mem_of_getElem? (i := 3) rfl)
  unfold f_X8_getting at h
  refine lv_iconst (v := 0) hx hb dX8_getting_0 (by decide) ?_
  refine lv_istore_n (lv' := [(2, .int (0 : Int32)), (0, .ref aM), (1, .int x1)]) hx hb dX8_getting_1 rfl hl (by decide) rfl (fun ls hl => ?_)
  refine lv_iconst (v := 0) hx hb dX8_getting_2 (by decide) ?_
  refine lv_istore_n (lv' := [(3, .int (0 : Int32)), (2, .int (0 : Int32)), (0, .ref aM), (1, .int x1)]) hx hb dX8_getting_3 rfl hl (by decide) rfl (fun ls hl => ?_)
  have lp4 : ∀ (k4 : Nat) (y2 : Int32) (y3 : Int32) (H : Heap) (locs : List Loc) (ls : Array Slot), va_P D vwCl (w_X8_getting cyI cyJ cyZ cyB cyO aM aM_d aM_gets aM_gotNow aM_e aM_f aM_kept aM_found aM_tape aM_came aM_got aM_held aM_off aM_comesUp aM_comesDown aM_path aM_bitsOf aM_sizeOf aM_number aM_passing vM_isKept vM_taped vM_leaked vM_keptAll vM_offAll vM_up vM_down vM_sharesUp vM_sharesDown vM_onUp vM_onDown vM_great vM_triedOff vM_triedLeaked vM_triedKept vM_fitting vM_firstSet vM_inAll vM_inAny vM_at vM_sort vM_from vM_value vM_fault cM_d cM_gets cM_gotNow) H → va_D A (w_X8_getting cyI cyJ cyZ cyB cyO aM aM_d aM_gets aM_gotNow aM_e aM_f aM_kept aM_found aM_tape aM_came aM_got aM_held aM_off aM_comesUp aM_comesDown aM_path aM_bitsOf aM_sizeOf aM_number aM_passing vM_isKept vM_taped vM_leaked vM_keptAll vM_offAll vM_up vM_down vM_sharesUp vM_sharesDown vM_onUp vM_onDown vM_great vM_triedOff vM_triedLeaked vM_triedKept vM_fitting vM_firstSet vM_inAll vM_inAny vM_at vM_sort vM_from vM_value vM_fault cM_d cM_gets cM_gotNow) → va_S A s.heap H locs → lv_has ls 5 [(2, .int y2), (3, .int y3), (0, .ref aM), (1, .int x1)] → (f_X8_getting_L4 x1 cM_d cM_gets cM_gotNow k4) (y2, y3) = some out → W p l e ({ frames := 0, cells := 0, slots := 0, locals := 0 } : Room) s m args below meth c H locs 0 0 Q (F0 m 4 ls []) := by
    intro k4
    induction k4 with
    | zero => intro y2 y3 H locs ls hP hD hS hl h; cases h
    | succ k4 ih4 =>
      intro y2 y3 H locs ls hP hD hS hl h
      have h : f_X8_getting_L4_b x1 cM_d cM_gets cM_gotNow (f_X8_getting_L4 x1 cM_d cM_gets cM_gotNow k4) y2 y3 = some out := h
      unfold f_X8_getting_L4_b at h
      refine lv_iload_n hx hb dX8_getting_4 rfl (lv_at hl 1 rfl) ?_
      refine lv_aload_n hx hb dX8_getting_5 rfl (lv_at hl 2 rfl) ?_
      refine va_get (D := D) (ci := 7) (v := .ref aM_d) (C := RX8) (T := TX8) (N := 43) hx hb hts in_X8 hown hK hP 0 rfl rfl 0 (by decide) q1 (fun _ h9 => h9) rfl dX8_getting_6 ?_
      refine lv_iconst (v := 0) hx hb dX8_getting_9 (by decide) ?_
      refine va_iald hx hb hK hP 1 0 rfl rfl (by unfold vp_in; decide) dX8_getting_10 ?_
      refine lv_icmp_ge (tgt := 84) hx hb dX8_getting_11 (by decide) (fun c1 => ?_) (fun c1 => ?_)
      · have h := br_pos c1 h
        refine lv_iload_n hx hb dX8_getting_84 rfl (lv_at hl 0 rfl) ?_
        obtain rfl := Option.some.inj h
        exact hret _ _ _ _ _ hP hD hS dX8_getting_85 rfl rfl
      · have h := br_neg c1 h
        refine lv_iload_n hx hb dX8_getting_14 rfl (lv_at hl 3 rfl) ?_
        have j61 : ∀ (y2 : Int32) (y3 : Int32) (t0 : Int32) (H : Heap) (locs : List Loc) (ls : Array Slot), va_P D vwCl (w_X8_getting cyI cyJ cyZ cyB cyO aM aM_d aM_gets aM_gotNow aM_e aM_f aM_kept aM_found aM_tape aM_came aM_got aM_held aM_off aM_comesUp aM_comesDown aM_path aM_bitsOf aM_sizeOf aM_number aM_passing vM_isKept vM_taped vM_leaked vM_keptAll vM_offAll vM_up vM_down vM_sharesUp vM_sharesDown vM_onUp vM_onDown vM_great vM_triedOff vM_triedLeaked vM_triedKept vM_fitting vM_firstSet vM_inAll vM_inAny vM_at vM_sort vM_from vM_value vM_fault cM_d cM_gets cM_gotNow) H → va_D A (w_X8_getting cyI cyJ cyZ cyB cyO aM aM_d aM_gets aM_gotNow aM_e aM_f aM_kept aM_found aM_tape aM_came aM_got aM_held aM_off aM_comesUp aM_comesDown aM_path aM_bitsOf aM_sizeOf aM_number aM_passing vM_isKept vM_taped vM_leaked vM_keptAll vM_offAll vM_up vM_down vM_sharesUp vM_sharesDown vM_onUp vM_onDown vM_great vM_triedOff vM_triedLeaked vM_triedKept vM_fitting vM_firstSet vM_inAll vM_inAny vM_at vM_sort vM_from vM_value vM_fault cM_d cM_gets cM_gotNow) → va_S A s.heap H locs → lv_has ls 5 [(2, .int y2), (3, .int y3), (0, .ref aM), (1, .int x1)] → f_X8_getting_J61 x1 cM_d cM_gets cM_gotNow (f_X8_getting_L4 x1 cM_d cM_gets cM_gotNow k4) y2 y3 t0 = some out → W p l e ({ frames := 0, cells := 0, slots := 0, locals := 0 } : Room) s m args below meth c H locs 0 0 Q (F0 m 61 ls [.int t0]) := by
          intro y2 y3 t0 H locs ls hP hD hS hl h
          unfold f_X8_getting_J61 at h
          refine lv_istore (lv' := [(4, .int t0), (2, .int y2), (3, .int y3), (0, .ref aM), (1, .int x1)]) hx hb dX8_getting_61 hl (by decide) rfl (fun ls hl => ?_)
          refine lv_iload_n hx hb dX8_getting_63 rfl (lv_at hl 1 rfl) ?_
          refine lv_iload hx hb dX8_getting_64 (lv_at hl 0 rfl) ?_
          refine lv_if_eq (tgt := 75) hx hb dX8_getting_66 (by decide) (fun c2 => ?_) (fun c2 => ?_)
          · have h := br_pos c2 h
            refine lv_iconst (v := 0) hx hb dX8_getting_75 (by decide) ?_
            refine lv_ior hx hb dX8_getting_76 ?_
            refine lv_topi (fun z3 ez3 => ?_)
            have h := nm_at ez3 h
            refine lv_istore_n (lv' := [(2, .int z3), (4, .int t0), (3, .int y3), (0, .ref aM), (1, .int x1)]) hx hb dX8_getting_77 rfl hl (by decide) rfl (fun ls hl => ?_)
            refine lv_iinc (v := y3 + 1) (lv' := [(3, .int (y3 + 1)), (2, .int z3), (4, .int t0), (0, .ref aM), (1, .int x1)]) hx hb dX8_getting_78 hl (k := 2) rfl rfl (by decide) rfl (fun ls hl => ?_)
            refine lv_goto (tgt := 4) hx hb dX8_getting_81 (by decide) ?_
            exact ih4 z3 (y3 + 1) _ _ _ hP hD hS (lv_sub hl [1, 0, 3, 4] rfl) h
          · have h := br_neg c2 h
            refine lv_iconst (v := 1) hx hb dX8_getting_69 (by decide) ?_
            refine lv_iload_n hx hb dX8_getting_70 rfl (lv_at hl 2 rfl) ?_
            refine lv_ishl hx hb dX8_getting_71 ?_
            refine lv_goto (tgt := 76) hx hb dX8_getting_72 (by decide) ?_
            refine lv_ior hx hb dX8_getting_76 ?_
            refine lv_topi (fun z4 ez4 => ?_)
            have h := nm_at ez4 h
            refine lv_istore_n (lv' := [(2, .int z4), (4, .int t0), (3, .int y3), (0, .ref aM), (1, .int x1)]) hx hb dX8_getting_77 rfl hl (by decide) rfl (fun ls hl => ?_)
            refine lv_iinc (v := y3 + 1) (lv' := [(3, .int (y3 + 1)), (2, .int z4), (4, .int t0), (0, .ref aM), (1, .int x1)]) hx hb dX8_getting_78 hl (k := 2) rfl rfl (by decide) rfl (fun ls hl => ?_)
            refine lv_goto (tgt := 4) hx hb dX8_getting_81 (by decide) ?_
            exact ih4 z4 (y3 + 1) _ _ _ hP hD hS (lv_sub hl [1, 0, 3, 4] rfl) h
        refine lv_if_eq (tgt := 41) hx hb dX8_getting_15 (by decide) (fun c5 => ?_) (fun c5 => ?_)
        · have h := br_pos c5 h
          refine lv_aload_n hx hb dX8_getting_41 rfl (lv_at hl 2 rfl) ?_
          refine va_get (D := D) (ci := 7) (v := .ref aM_gets) (C := RX8) (T := TX8) (N := 43) hx hb hts in_X8 hown hK hP 0 rfl rfl 25 (by decide) q2 (fun _ h9 => h9) rfl dX8_getting_42 ?_
          refine lv_iload_n hx hb dX8_getting_45 rfl (lv_at hl 1 rfl) ?_
          obtain ⟨g6, h⟩ := gd_some h
          refine va_iald hx hb hK hP 2 0 rfl rfl g6 dX8_getting_46 ?_
          refine lv_aload_n hx hb dX8_getting_47 rfl (lv_at hl 2 rfl) ?_
          refine va_get (D := D) (ci := 7) (v := .ref aM_gotNow) (C := RX8) (T := TX8) (N := 43) hx hb hts in_X8 hown hK hP 0 rfl rfl 29 (by decide) q3 (fun _ h9 => h9) rfl dX8_getting_48 ?_
          refine lv_iload_n hx hb dX8_getting_51 rfl (lv_at hl 1 rfl) ?_
          obtain ⟨g7, h⟩ := gd_some h
          refine va_iald hx hb hK hP 3 0 rfl rfl g7 dX8_getting_52 ?_
          refine lv_icmp_ge (tgt := 60) hx hb dX8_getting_53 (by decide) (fun c8 => ?_) (fun c8 => ?_)
          · have h := br_pos c8 h
            refine lv_iconst (v := 0) hx hb dX8_getting_60 (by decide) ?_
            exact j61 y2 y3 (0 : Int32) _ _ _ hP hD hS (lv_sub hl [0, 1, 2, 3] rfl) h
          · have h := br_neg c8 h
            refine lv_iconst (v := 1) hx hb dX8_getting_56 (by decide) ?_
            refine lv_goto (tgt := 61) hx hb dX8_getting_57 (by decide) ?_
            exact j61 y2 y3 (1 : Int32) _ _ _ hP hD hS (lv_sub hl [0, 1, 2, 3] rfl) h
        · have h := br_neg c5 h
          refine lv_aload_n hx hb dX8_getting_18 rfl (lv_at hl 2 rfl) ?_
          refine va_get (D := D) (ci := 7) (v := .ref aM_gets) (C := RX8) (T := TX8) (N := 43) hx hb hts in_X8 hown hK hP 0 rfl rfl 25 (by decide) q2 (fun _ h9 => h9) rfl dX8_getting_19 ?_
          refine lv_iload_n hx hb dX8_getting_22 rfl (lv_at hl 1 rfl) ?_
          obtain ⟨g9, h⟩ := gd_some h
          refine va_iald hx hb hK hP 2 0 rfl rfl g9 dX8_getting_23 ?_
          refine lv_aload_n hx hb dX8_getting_24 rfl (lv_at hl 2 rfl) ?_
          refine va_get (D := D) (ci := 7) (v := .ref aM_gotNow) (C := RX8) (T := TX8) (N := 43) hx hb hts in_X8 hown hK hP 0 rfl rfl 29 (by decide) q3 (fun _ h9 => h9) rfl dX8_getting_25 ?_
          refine lv_iload_n hx hb dX8_getting_28 rfl (lv_at hl 1 rfl) ?_
          obtain ⟨g10, h⟩ := gd_some h
          refine va_iald hx hb hK hP 3 0 rfl rfl g10 dX8_getting_29 ?_
          refine lv_icmp_le (tgt := 37) hx hb dX8_getting_30 (by decide) (fun c11 => ?_) (fun c11 => ?_)
          · have h := br_pos c11 h
            refine lv_iconst (v := 0) hx hb dX8_getting_37 (by decide) ?_
            refine lv_goto (tgt := 61) hx hb dX8_getting_38 (by decide) ?_
            exact j61 y2 y3 (0 : Int32) _ _ _ hP hD hS (lv_sub hl [0, 1, 2, 3] rfl) h
          · have h := br_neg c11 h
            refine lv_iconst (v := 1) hx hb dX8_getting_33 (by decide) ?_
            refine lv_goto (tgt := 61) hx hb dX8_getting_34 (by decide) ?_
            exact j61 y2 y3 (1 : Int32) _ _ _ hP hD hS (lv_sub hl [0, 1, 2, 3] rfl) h
  exact lp4 FU (0 : Int32) (0 : Int32) _ _ _ hP hD hS (lv_sub hl [1, 0, 2, 3] rfl) h
/-! ===== X8_hurt ===== -/
def w_X8_hurt (cyI cyJ cyZ cyB cyO : ClassId) (aM aM_d aM_f aM_came aM_got aM_held aM_off aM_gets aM_gotNow aM_found aM_e aM_kept aM_tape aM_comesUp aM_comesDown aM_path aM_bitsOf aM_sizeOf aM_number aM_passing : Nat) (vM_isKept : Int32) (vM_taped : Int32) (vM_leaked : Int32) (vM_keptAll : Int32) (vM_offAll : Int32) (vM_up : Int64) (vM_down : Int64) (vM_sharesUp : Int64) (vM_sharesDown : Int64) (vM_onUp : Int64) (vM_onDown : Int64) (vM_great : Int32) (vM_triedOff : Int32) (vM_triedLeaked : Int32) (vM_triedKept : Int32) (vM_fitting : Int32) (vM_firstSet : Int32) (vM_inAll : Int32) (vM_inAny : Int32) (vM_at : Int32) (vM_sort : Int32) (vM_from : Int32) (vM_value : Int64) (vM_fault : Int32) (cM_d : Nat → Int32) (cM_f : Nat → Int32) (cM_came : Nat → Int32) (cM_got : Nat → Int32) (cM_held : Nat → Int32) (cM_off : Nat → Int32) (cM_gets : Nat → Int32) (cM_gotNow : Nat → Int32) (cM_found : Nat → Int32) : va_W := [(aM, .inr (7, [.ref aM_d, .ref aM_e, .ref aM_f, .ref aM_kept, .int vM_isKept, .ref aM_found, .ref aM_tape, .int vM_taped, .ref aM_came, .ref aM_got, .ref aM_held, .ref aM_off, .int vM_leaked, .int vM_keptAll, .int vM_offAll, .ref aM_comesUp, .ref aM_comesDown, .long vM_up, .long vM_down, .long vM_sharesUp, .long vM_sharesDown, .long vM_onUp, .long vM_onDown, .int vM_great, .ref aM_path, .ref aM_gets, .int vM_triedOff, .int vM_triedLeaked, .int vM_triedKept, .ref aM_gotNow, .int vM_fitting, .int vM_firstSet, .int vM_inAll, .int vM_inAny, .int vM_at, .int vM_sort, .int vM_from, .long vM_value, .int vM_fault, .ref aM_bitsOf, .ref aM_sizeOf, .ref aM_number, .ref aM_passing])), (aM_d, .inl (cyI, 64, .inl cM_d)), (aM_f, .inl (cyI, 64, .inl cM_f)), (aM_came, .inl (cyI, 10, .inl cM_came)), (aM_got, .inl (cyI, 10, .inl cM_got)), (aM_held, .inl (cyI, 10, .inl cM_held)), (aM_off, .inl (cyI, 10, .inl cM_off)), (aM_gets, .inl (cyI, 10, .inl cM_gets)), (aM_gotNow, .inl (cyI, 10, .inl cM_gotNow)), (aM_found, .inl (cyI, 7, .inl cM_found))]
set_option maxHeartbeats 4000000 in
set_option maxRecDepth 100000 in
theorem t_X8_hurt (l : Launch) (D : va_G) (cyI cyJ cyZ cyB cyO : ClassId) (aM aM_d aM_f aM_came aM_got aM_held aM_off aM_gets aM_gotNow aM_found aM_e aM_kept aM_tape aM_comesUp aM_comesDown aM_path aM_bitsOf aM_sizeOf aM_number aM_passing : Nat) (vM_isKept : Int32) (vM_taped : Int32) (vM_leaked : Int32) (vM_keptAll : Int32) (vM_offAll : Int32) (vM_up : Int64) (vM_down : Int64) (vM_sharesUp : Int64) (vM_sharesDown : Int64) (vM_onUp : Int64) (vM_onDown : Int64) (vM_great : Int32) (vM_triedOff : Int32) (vM_triedLeaked : Int32) (vM_triedKept : Int32) (vM_fitting : Int32) (vM_firstSet : Int32) (vM_inAll : Int32) (vM_inAny : Int32) (vM_at : Int32) (vM_sort : Int32) (vM_from : Int32) (vM_value : Int64) (vM_fault : Int32) (cM_d : Nat → Int32) (cM_f : Nat → Int32) (cM_came : Nat → Int32) (cM_got : Nat → Int32) (cM_held : Nat → Int32) (cM_off : Nat → Int32) (cM_gets : Nat → Int32) (cM_gotNow : Nat → Int32) (cM_found : Nat → Int32) (x1 : Int32) (x2 : Int32) (out : Int32 × Int32 × Int32 × Int32 × Int32 × Int32 × Int32 × (Nat → Int32) × (Nat → Int32) × (Nat → Int32) × (Nat → Int32) × (Nat → Int32) × (Nat → Int32) × (Nat → Int32) × (Nat → Int32) × (Nat → Int32)) (h : f_X8_hurt x1 x2 vM_leaked vM_keptAll vM_offAll vM_triedOff vM_triedLeaked vM_triedKept cM_d cM_f cM_came cM_got cM_held cM_off cM_gets cM_gotNow cM_found = some out) : Mi l yX8_hurt wsX8_hurt ({ frames := 6, cells := 0, slots := 0, locals := 140 } : Room) D (tyA cyI cyJ cyZ cyB cyO) [.ref aM, .int x1, .int x2] (w_X8_hurt cyI cyJ cyZ cyB cyO aM aM_d aM_f aM_came aM_got aM_held aM_off aM_gets aM_gotNow aM_found aM_e aM_kept aM_tape aM_comesUp aM_comesDown aM_path aM_bitsOf aM_sizeOf aM_number aM_passing vM_isKept vM_taped vM_leaked vM_keptAll vM_offAll vM_up vM_down vM_sharesUp vM_sharesDown vM_onUp vM_onDown vM_great vM_triedOff vM_triedLeaked vM_triedKept vM_fitting vM_firstSet vM_inAll vM_inAny vM_at vM_sort vM_from vM_value vM_fault cM_d cM_f cM_came cM_got cM_held cM_off cM_gets cM_gotNow cM_found) (w_X8_hurt cyI cyJ cyZ cyB cyO aM aM_d aM_f aM_came aM_got aM_held aM_off aM_gets aM_gotNow aM_found aM_e aM_kept aM_tape aM_comesUp aM_comesDown aM_path aM_bitsOf aM_sizeOf aM_number aM_passing vM_isKept vM_taped out.2.1 out.2.2.1 out.2.2.2.1 vM_up vM_down vM_sharesUp vM_sharesDown vM_onUp vM_onDown vM_great out.2.2.2.2.1 out.2.2.2.2.2.1 out.2.2.2.2.2.2.1 vM_fitting vM_firstSet vM_inAll vM_inAny vM_at vM_sort vM_from vM_value vM_fault out.2.2.2.2.2.2.2.1 out.2.2.2.2.2.2.2.2.1 out.2.2.2.2.2.2.2.2.2.1 out.2.2.2.2.2.2.2.2.2.2.1 out.2.2.2.2.2.2.2.2.2.2.2.1 out.2.2.2.2.2.2.2.2.2.2.2.2.1 out.2.2.2.2.2.2.2.2.2.2.2.2.2.1 out.2.2.2.2.2.2.2.2.2.2.2.2.2.2.1 out.2.2.2.2.2.2.2.2.2.2.2.2.2.2.2) out.1 := by
  refine Mi.mk (cc := cX8_hurt) (maxL := 5) (rt := .int) (own := RX8) (by decide) rfl rfl (Nat.le_of_ble_eq_true rfl) ?_
  intro p e s m args below meth c A Q F hK hP hD hA hret ls hl
  obtain ⟨hx, hb, hml, hown, hts⟩ := id F
  have hS : va_S A s.heap s.heap [] := va_S.rf
  have hl : lv_has ls 5 [(0, .ref aM), (1, .int x1), (2, .int x2)] := hl
  have q1 := hts (Cond.methodLink RX8 229 yX8_why) (List.mem_of_getElem? (i := 1) rfl)
  have q25 := hts (Cond.methodLink RX8 236 yX8_keepGets) (List.mem_of_getElem? (i := 25) rfl)
  have q57 := hts (Cond.methodLink RX8 74 yX8_its) (List.mem_of_getElem? (i := 57) rfl)
  have q74 := hts (Cond.methodLink RX8 105 yX8_sets) (List.mem_of_getElem? (i := 74) rfl)
  have q31 := hts (Cond.methodLink RX8 224 yX8_tries) (List.mem_of_getElem? (i := 31) rfl)
  have q78 := hts (Cond.methodLink RX8 239 yX8_getting) (List.mem_of_getElem? (i := 78) rfl)
  have q19 := hts (Cond.methodLink RX8 115 yX8_finds) (List.mem_of_getElem? (i := 19) rfl)
  unfold f_X8_hurt at h
  refine lv_aload_n hx hb dX8_hurt_0 rfl (lv_at hl 0 rfl) ?_
  refine lv_iload_n hx hb dX8_hurt_1 rfl (lv_at hl 1 rfl) ?_
  refine lv_iload_n hx hb dX8_hurt_2 rfl (lv_at hl 2 rfl) ?_
  refine lv_iconst (v := 0) hx hb dX8_hurt_3 (by decide) ?_
  obtain ⟨u1, hu1, h⟩ := bd_some h
  refine cl_Vi (rest := []) F hK hP hD hS hA hl (t_X8_why l D cyI cyJ cyZ cyB cyO aM aM_d aM_e aM_f aM_kept aM_found aM_tape aM_came aM_got aM_held aM_off aM_comesUp aM_comesDown aM_path aM_gets aM_gotNow aM_bitsOf aM_sizeOf aM_number aM_passing vM_isKept vM_taped vM_leaked vM_keptAll vM_offAll vM_up vM_down vM_sharesUp vM_sharesDown vM_onUp vM_onDown vM_great vM_triedOff vM_triedLeaked vM_triedKept vM_fitting vM_firstSet vM_inAll vM_inAny vM_at vM_sort vM_from vM_value vM_fault cM_d x1 x2 (0 : Int32) u1 hu1) (cwV 3 hts gX8_hurt_X8_why rfl rfl rfl (by decide +kernel) ⟨Nat.le_of_ble_eq_true rfl, Nat.le_of_ble_eq_true rfl⟩) 0 [0, 1] [1, 2, 0, 0, 0, 0, 0, 0, 0, 0] [] (w_X8_hurt cyI cyJ cyZ cyB cyO aM aM_d aM_f aM_came aM_got aM_held aM_off aM_gets aM_gotNow aM_found aM_e aM_kept aM_tape aM_comesUp aM_comesDown aM_path aM_bitsOf aM_sizeOf aM_number aM_passing vM_isKept vM_taped vM_leaked vM_keptAll vM_offAll vM_up vM_down vM_sharesUp vM_sharesDown vM_onUp vM_onDown vM_great vM_triedOff vM_triedLeaked vM_triedKept vM_fitting vM_firstSet vM_inAll vM_inAny vM_at vM_sort vM_from vM_value vM_fault cM_d cM_f cM_came cM_got cM_held cM_off cM_gets cM_gotNow cM_found) rfl rfl rfl rfl rfl (by decide +kernel) rfl rfl (Nat.le_of_ble_eq_true rfl) ⟨Nat.zero_le _, Nat.zero_le _⟩ dX8_hurt_4 (fun H locs hP hD hS => ?_)
  refine lv_istore_n (lv' := [(3, .int u1), (0, .ref aM), (1, .int x1), (2, .int x2)]) hx hb dX8_hurt_7 rfl hl (by decide) rfl (fun ls hl => ?_)
  refine lv_iload_n hx hb dX8_hurt_8 rfl (lv_at hl 0 rfl) ?_
  refine lv_if_lt (tgt := 18) hx hb dX8_hurt_9 (by decide) (fun c2 => ?_) (fun c2 => ?_)
  · have h := br_pos c2 h
    refine lv_aload_n hx hb dX8_hurt_18 rfl (lv_at hl 1 rfl) ?_
    refine lv_iload_n hx hb dX8_hurt_19 rfl (lv_at hl 3 rfl) ?_
    obtain ⟨u3, hu3, h⟩ := bd_some h
    refine cl_Vv (rest := []) F hK hP hD hS hA hl (t_X8_keepGets l D cyI cyJ cyZ cyB cyO aM aM_d aM_f aM_came aM_got aM_held aM_off aM_gets aM_gotNow aM_e aM_kept aM_found aM_tape aM_comesUp aM_comesDown aM_path aM_bitsOf aM_sizeOf aM_number aM_passing vM_isKept vM_taped vM_leaked vM_keptAll vM_offAll vM_up vM_down vM_sharesUp vM_sharesDown vM_onUp vM_onDown vM_great vM_triedOff vM_triedLeaked vM_triedKept vM_fitting vM_firstSet vM_inAll vM_inAny vM_at vM_sort vM_from vM_value vM_fault cM_d cM_f cM_came cM_got cM_held cM_off cM_gets cM_gotNow x2 u3 hu3) (cwV 1 hts gX8_hurt_X8_keepGets rfl rfl rfl (by decide +kernel) ⟨Nat.le_of_ble_eq_true rfl, Nat.le_of_ble_eq_true rfl⟩) 0 [0, 1, 2, 3, 4, 5, 6, 7, 8] [1, 2, 3, 4, 5, 6, 7, 8, 9, 0] [] (w_X8_hurt cyI cyJ cyZ cyB cyO aM aM_d aM_f aM_came aM_got aM_held aM_off aM_gets aM_gotNow aM_found aM_e aM_kept aM_tape aM_comesUp aM_comesDown aM_path aM_bitsOf aM_sizeOf aM_number aM_passing vM_isKept vM_taped u3.1 u3.2.1 u3.2.2.1 vM_up vM_down vM_sharesUp vM_sharesDown vM_onUp vM_onDown vM_great u3.2.2.2.1 u3.2.2.2.2.1 u3.2.2.2.2.2.1 vM_fitting vM_firstSet vM_inAll vM_inAny vM_at vM_sort vM_from vM_value vM_fault u3.2.2.2.2.2.2.1 u3.2.2.2.2.2.2.2.1 u3.2.2.2.2.2.2.2.2.1 u3.2.2.2.2.2.2.2.2.2.1 u3.2.2.2.2.2.2.2.2.2.2.1 u3.2.2.2.2.2.2.2.2.2.2.2.1 u3.2.2.2.2.2.2.2.2.2.2.2.2.1 u3.2.2.2.2.2.2.2.2.2.2.2.2.2 cM_found) rfl rfl rfl rfl rfl (by decide +kernel) rfl rfl (Nat.le_of_ble_eq_true rfl) ⟨Nat.zero_le _, Nat.zero_le _⟩ dX8_hurt_20 (fun H locs hP hD hS => ?_)
    refine lv_aload_n hx hb dX8_hurt_23 rfl (lv_at hl 1 rfl) ?_
    refine lv_iload_n hx hb dX8_hurt_24 rfl (lv_at hl 2 rfl) ?_
    refine lv_iconst (v := 0) hx hb dX8_hurt_25 (by decide) ?_
    obtain ⟨u4, hu4, h⟩ := bd_some h
    refine cl_Vi (rest := []) F hK hP hD hS hA hl (t_X8_its l D cyI cyJ cyZ cyB cyO aM aM_d aM_e aM_f aM_kept aM_found aM_tape aM_came aM_got aM_held aM_off aM_comesUp aM_comesDown aM_path aM_gets aM_gotNow aM_bitsOf aM_sizeOf aM_number aM_passing vM_isKept vM_taped u3.1 u3.2.1 u3.2.2.1 vM_up vM_down vM_sharesUp vM_sharesDown vM_onUp vM_onDown vM_great u3.2.2.2.1 u3.2.2.2.2.1 u3.2.2.2.2.2.1 vM_fitting vM_firstSet vM_inAll vM_inAny vM_at vM_sort vM_from vM_value vM_fault u3.2.2.2.2.2.2.1 x1 (0 : Int32) u4 hu4) (cwV 2 hts gX8_hurt_X8_its rfl rfl rfl (by decide +kernel) ⟨Nat.le_of_ble_eq_true rfl, Nat.le_of_ble_eq_true rfl⟩) 0 [0, 1] [1, 2, 0, 0, 0, 0, 0, 0, 0, 0] [] (w_X8_hurt cyI cyJ cyZ cyB cyO aM aM_d aM_f aM_came aM_got aM_held aM_off aM_gets aM_gotNow aM_found aM_e aM_kept aM_tape aM_comesUp aM_comesDown aM_path aM_bitsOf aM_sizeOf aM_number aM_passing vM_isKept vM_taped u3.1 u3.2.1 u3.2.2.1 vM_up vM_down vM_sharesUp vM_sharesDown vM_onUp vM_onDown vM_great u3.2.2.2.1 u3.2.2.2.2.1 u3.2.2.2.2.2.1 vM_fitting vM_firstSet vM_inAll vM_inAny vM_at vM_sort vM_from vM_value vM_fault u3.2.2.2.2.2.2.1 u3.2.2.2.2.2.2.2.1 u3.2.2.2.2.2.2.2.2.1 u3.2.2.2.2.2.2.2.2.2.1 u3.2.2.2.2.2.2.2.2.2.2.1 u3.2.2.2.2.2.2.2.2.2.2.2.1 u3.2.2.2.2.2.2.2.2.2.2.2.2.1 u3.2.2.2.2.2.2.2.2.2.2.2.2.2 cM_found) rfl rfl rfl rfl rfl (by decide +kernel) rfl rfl (Nat.le_of_ble_eq_true rfl) ⟨Nat.zero_le _, Nat.zero_le _⟩ dX8_hurt_26 (fun H locs hP hD hS => ?_)
    refine lv_istore (lv' := [(4, .int u4), (3, .int u1), (0, .ref aM), (1, .int x1), (2, .int x2)]) hx hb dX8_hurt_29 hl (by decide) rfl (fun ls hl => ?_)
    refine lv_aload_n hx hb dX8_hurt_31 rfl (lv_at hl 2 rfl) ?_
    refine lv_iload_n hx hb dX8_hurt_32 rfl (lv_at hl 3 rfl) ?_
    refine lv_iconst (v := 0) hx hb dX8_hurt_33 (by decide) ?_
    refine lv_iconst (v := 1) hx hb dX8_hurt_34 (by decide) ?_
    obtain ⟨u5, hu5, h⟩ := bd_some h
    refine cl_Vv (rest := []) F hK hP hD hS hA hl (t_X8_sets l D cyI cyJ cyZ cyB cyO aM aM_d aM_e aM_f aM_kept aM_found aM_tape aM_came aM_got aM_held aM_off aM_comesUp aM_comesDown aM_path aM_gets aM_gotNow aM_bitsOf aM_sizeOf aM_number aM_passing vM_isKept vM_taped u3.1 u3.2.1 u3.2.2.1 vM_up vM_down vM_sharesUp vM_sharesDown vM_onUp vM_onDown vM_great u3.2.2.2.1 u3.2.2.2.2.1 u3.2.2.2.2.2.1 vM_fitting vM_firstSet vM_inAll vM_inAny vM_at vM_sort vM_from vM_value vM_fault u3.2.2.2.2.2.2.1 x1 (0 : Int32) (1 : Int32) u5 hu5) (cwV 3 hts gX8_hurt_X8_sets rfl rfl rfl (by decide +kernel) ⟨Nat.le_of_ble_eq_true rfl, Nat.le_of_ble_eq_true rfl⟩) 0 [0, 1] [1, 2, 0, 0, 0, 0, 0, 0, 0, 0] [] (w_X8_hurt cyI cyJ cyZ cyB cyO aM aM_d aM_f aM_came aM_got aM_held aM_off aM_gets aM_gotNow aM_found aM_e aM_kept aM_tape aM_comesUp aM_comesDown aM_path aM_bitsOf aM_sizeOf aM_number aM_passing vM_isKept vM_taped u3.1 u3.2.1 u3.2.2.1 vM_up vM_down vM_sharesUp vM_sharesDown vM_onUp vM_onDown vM_great u3.2.2.2.1 u3.2.2.2.2.1 u3.2.2.2.2.2.1 vM_fitting vM_firstSet vM_inAll vM_inAny vM_at vM_sort vM_from vM_value vM_fault u5 u3.2.2.2.2.2.2.2.1 u3.2.2.2.2.2.2.2.2.1 u3.2.2.2.2.2.2.2.2.2.1 u3.2.2.2.2.2.2.2.2.2.2.1 u3.2.2.2.2.2.2.2.2.2.2.2.1 u3.2.2.2.2.2.2.2.2.2.2.2.2.1 u3.2.2.2.2.2.2.2.2.2.2.2.2.2 cM_found) rfl rfl rfl rfl rfl (by decide +kernel) rfl rfl (Nat.le_of_ble_eq_true rfl) ⟨Nat.zero_le _, Nat.zero_le _⟩ dX8_hurt_35 (fun H locs hP hD hS => ?_)
    refine lv_aload_n hx hb dX8_hurt_38 rfl (lv_at hl 2 rfl) ?_
    refine lv_iload_n hx hb dX8_hurt_39 rfl (lv_at hl 4 rfl) ?_
    obtain ⟨u6, hu6, h⟩ := bd_some h
    refine cl_Vv (rest := []) F hK hP hD hS hA hl (t_X8_tries l D cyI cyJ cyZ cyB cyO aM aM_d aM_f aM_came aM_got aM_held aM_off aM_gets aM_e aM_kept aM_found aM_tape aM_comesUp aM_comesDown aM_path aM_gotNow aM_bitsOf aM_sizeOf aM_number aM_passing vM_isKept vM_taped u3.1 u3.2.1 u3.2.2.1 vM_up vM_down vM_sharesUp vM_sharesDown vM_onUp vM_onDown vM_great u3.2.2.2.1 u3.2.2.2.2.1 u3.2.2.2.2.2.1 vM_fitting vM_firstSet vM_inAll vM_inAny vM_at vM_sort vM_from vM_value vM_fault u5 u3.2.2.2.2.2.2.2.1 u3.2.2.2.2.2.2.2.2.1 u3.2.2.2.2.2.2.2.2.2.1 u3.2.2.2.2.2.2.2.2.2.2.1 u3.2.2.2.2.2.2.2.2.2.2.2.1 u3.2.2.2.2.2.2.2.2.2.2.2.2.1 x2 u6 hu6) (cwV 1 hts gX8_hurt_X8_tries rfl rfl rfl (by decide +kernel) ⟨Nat.le_of_ble_eq_true rfl, Nat.le_of_ble_eq_true rfl⟩) 0 [0, 1, 2, 3, 4, 5, 6, 7] [1, 2, 3, 4, 5, 6, 7, 8, 0, 0] [] (w_X8_hurt cyI cyJ cyZ cyB cyO aM aM_d aM_f aM_came aM_got aM_held aM_off aM_gets aM_gotNow aM_found aM_e aM_kept aM_tape aM_comesUp aM_comesDown aM_path aM_bitsOf aM_sizeOf aM_number aM_passing vM_isKept vM_taped u6.1 u6.2.1 u6.2.2.1 vM_up vM_down vM_sharesUp vM_sharesDown vM_onUp vM_onDown vM_great u6.2.2.2.1 u6.2.2.2.2.1 u6.2.2.2.2.2.1 vM_fitting vM_firstSet vM_inAll vM_inAny vM_at vM_sort vM_from vM_value vM_fault u6.2.2.2.2.2.2.1 u6.2.2.2.2.2.2.2.1 u6.2.2.2.2.2.2.2.2.1 u6.2.2.2.2.2.2.2.2.2.1 u6.2.2.2.2.2.2.2.2.2.2.1 u6.2.2.2.2.2.2.2.2.2.2.2.1 u6.2.2.2.2.2.2.2.2.2.2.2.2 u3.2.2.2.2.2.2.2.2.2.2.2.2.2 cM_found) rfl rfl rfl rfl rfl (by decide +kernel) rfl rfl (Nat.le_of_ble_eq_true rfl) ⟨Nat.zero_le _, Nat.zero_le _⟩ dX8_hurt_40 (fun H locs hP hD hS => ?_)
    refine lv_aload_n hx hb dX8_hurt_43 rfl (lv_at hl 2 rfl) ?_
    refine lv_iload_n hx hb dX8_hurt_44 rfl (lv_at hl 3 rfl) ?_
    refine lv_iconst (v := 0) hx hb dX8_hurt_45 (by decide) ?_
    refine lv_iload hx hb dX8_hurt_46 (lv_at hl 0 rfl) ?_
    obtain ⟨u7, hu7, h⟩ := bd_some h
    refine cl_Vv (rest := []) F hK hP hD hS hA hl (t_X8_sets l D cyI cyJ cyZ cyB cyO aM aM_d aM_e aM_f aM_kept aM_found aM_tape aM_came aM_got aM_held aM_off aM_comesUp aM_comesDown aM_path aM_gets aM_gotNow aM_bitsOf aM_sizeOf aM_number aM_passing vM_isKept vM_taped u6.1 u6.2.1 u6.2.2.1 vM_up vM_down vM_sharesUp vM_sharesDown vM_onUp vM_onDown vM_great u6.2.2.2.1 u6.2.2.2.2.1 u6.2.2.2.2.2.1 vM_fitting vM_firstSet vM_inAll vM_inAny vM_at vM_sort vM_from vM_value vM_fault u6.2.2.2.2.2.2.1 x1 (0 : Int32) u4 u7 hu7) (cwV 3 hts gX8_hurt_X8_sets rfl rfl rfl (by decide +kernel) ⟨Nat.le_of_ble_eq_true rfl, Nat.le_of_ble_eq_true rfl⟩) 0 [0, 1] [1, 2, 0, 0, 0, 0, 0, 0, 0, 0] [] (w_X8_hurt cyI cyJ cyZ cyB cyO aM aM_d aM_f aM_came aM_got aM_held aM_off aM_gets aM_gotNow aM_found aM_e aM_kept aM_tape aM_comesUp aM_comesDown aM_path aM_bitsOf aM_sizeOf aM_number aM_passing vM_isKept vM_taped u6.1 u6.2.1 u6.2.2.1 vM_up vM_down vM_sharesUp vM_sharesDown vM_onUp vM_onDown vM_great u6.2.2.2.1 u6.2.2.2.2.1 u6.2.2.2.2.2.1 vM_fitting vM_firstSet vM_inAll vM_inAny vM_at vM_sort vM_from vM_value vM_fault u7 u6.2.2.2.2.2.2.2.1 u6.2.2.2.2.2.2.2.2.1 u6.2.2.2.2.2.2.2.2.2.1 u6.2.2.2.2.2.2.2.2.2.2.1 u6.2.2.2.2.2.2.2.2.2.2.2.1 u6.2.2.2.2.2.2.2.2.2.2.2.2 u3.2.2.2.2.2.2.2.2.2.2.2.2.2 cM_found) rfl rfl rfl rfl rfl (by decide +kernel) rfl rfl (Nat.le_of_ble_eq_true rfl) ⟨Nat.zero_le _, Nat.zero_le _⟩ dX8_hurt_48 (fun H locs hP hD hS => ?_)
    refine lv_aload_n hx hb dX8_hurt_51 rfl (lv_at hl 2 rfl) ?_
    refine lv_iconst (v := 0) hx hb dX8_hurt_52 (by decide) ?_
    obtain ⟨u8, hu8, h⟩ := bd_some h
    refine cl_Vi (rest := []) F hK hP hD hS hA hl (t_X8_getting l D cyI cyJ cyZ cyB cyO aM aM_d aM_gets aM_gotNow aM_e aM_f aM_kept aM_found aM_tape aM_came aM_got aM_held aM_off aM_comesUp aM_comesDown aM_path aM_bitsOf aM_sizeOf aM_number aM_passing vM_isKept vM_taped u6.1 u6.2.1 u6.2.2.1 vM_up vM_down vM_sharesUp vM_sharesDown vM_onUp vM_onDown vM_great u6.2.2.2.1 u6.2.2.2.2.1 u6.2.2.2.2.2.1 vM_fitting vM_firstSet vM_inAll vM_inAny vM_at vM_sort vM_from vM_value vM_fault u7 u6.2.2.2.2.2.2.2.2.2.2.2.2 u3.2.2.2.2.2.2.2.2.2.2.2.2.2 (0 : Int32) u8 hu8) (cwV 1 hts gX8_hurt_X8_getting rfl rfl rfl (by decide +kernel) ⟨Nat.le_of_ble_eq_true rfl, Nat.le_of_ble_eq_true rfl⟩) 0 [0, 1, 7, 8] [1, 2, 0, 0, 0, 0, 0, 3, 4, 0] [] (w_X8_hurt cyI cyJ cyZ cyB cyO aM aM_d aM_f aM_came aM_got aM_held aM_off aM_gets aM_gotNow aM_found aM_e aM_kept aM_tape aM_comesUp aM_comesDown aM_path aM_bitsOf aM_sizeOf aM_number aM_passing vM_isKept vM_taped u6.1 u6.2.1 u6.2.2.1 vM_up vM_down vM_sharesUp vM_sharesDown vM_onUp vM_onDown vM_great u6.2.2.2.1 u6.2.2.2.2.1 u6.2.2.2.2.2.1 vM_fitting vM_firstSet vM_inAll vM_inAny vM_at vM_sort vM_from vM_value vM_fault u7 u6.2.2.2.2.2.2.2.1 u6.2.2.2.2.2.2.2.2.1 u6.2.2.2.2.2.2.2.2.2.1 u6.2.2.2.2.2.2.2.2.2.2.1 u6.2.2.2.2.2.2.2.2.2.2.2.1 u6.2.2.2.2.2.2.2.2.2.2.2.2 u3.2.2.2.2.2.2.2.2.2.2.2.2.2 cM_found) rfl rfl rfl rfl rfl (by decide +kernel) rfl rfl (Nat.le_of_ble_eq_true rfl) ⟨Nat.zero_le _, Nat.zero_le _⟩ dX8_hurt_53 (fun H locs hP hD hS => ?_)
    obtain rfl := Option.some.inj h
    exact hret _ _ _ _ _ hP hD hS dX8_hurt_56 rfl rfl
  · have h := br_neg c2 h
    refine lv_aload_n hx hb dX8_hurt_12 rfl (lv_at hl 1 rfl) ?_
    refine lv_iload_n hx hb dX8_hurt_13 rfl (lv_at hl 0 rfl) ?_
    obtain ⟨u9, hu9, h⟩ := bd_some h
    refine cl_Vi (rest := []) F hK hP hD hS hA hl (t_X8_finds l D cyI cyJ cyZ cyB cyO aM aM_found aM_d aM_e aM_f aM_kept aM_tape aM_came aM_got aM_held aM_off aM_comesUp aM_comesDown aM_path aM_gets aM_gotNow aM_bitsOf aM_sizeOf aM_number aM_passing vM_isKept vM_taped vM_leaked vM_keptAll vM_offAll vM_up vM_down vM_sharesUp vM_sharesDown vM_onUp vM_onDown vM_great vM_triedOff vM_triedLeaked vM_triedKept vM_fitting vM_firstSet vM_inAll vM_inAny vM_at vM_sort vM_from vM_value vM_fault cM_found u1 u9 hu9) (cwV 1 hts gX8_hurt_X8_finds rfl rfl rfl (by decide +kernel) ⟨Nat.le_of_ble_eq_true rfl, Nat.le_of_ble_eq_true rfl⟩) 0 [0, 9] [1, 0, 0, 0, 0, 0, 0, 0, 0, 2] [] (w_X8_hurt cyI cyJ cyZ cyB cyO aM aM_d aM_f aM_came aM_got aM_held aM_off aM_gets aM_gotNow aM_found aM_e aM_kept aM_tape aM_comesUp aM_comesDown aM_path aM_bitsOf aM_sizeOf aM_number aM_passing vM_isKept vM_taped vM_leaked vM_keptAll vM_offAll vM_up vM_down vM_sharesUp vM_sharesDown vM_onUp vM_onDown vM_great vM_triedOff vM_triedLeaked vM_triedKept vM_fitting vM_firstSet vM_inAll vM_inAny vM_at vM_sort vM_from vM_value vM_fault cM_d cM_f cM_came cM_got cM_held cM_off cM_gets cM_gotNow u9.2) rfl rfl rfl rfl rfl (by decide +kernel) rfl rfl (Nat.le_of_ble_eq_true rfl) ⟨Nat.zero_le _, Nat.zero_le _⟩ dX8_hurt_14 (fun H locs hP hD hS => ?_)
    obtain rfl := Option.some.inj h
    exact hret _ _ _ _ _ hP hD hS dX8_hurt_17 rfl rfl
/-! ===== X8_deal ===== -/
def w_X8_deal (cyI cyJ cyZ cyB cyO : ClassId) (aM aM_d aM_f aM_came aM_got aM_held aM_off aM_gets aM_gotNow aM_found aM_e aM_kept aM_tape aM_comesUp aM_comesDown aM_path aM_bitsOf aM_sizeOf aM_number aM_passing : Nat) (vM_isKept : Int32) (vM_taped : Int32) (vM_leaked : Int32) (vM_keptAll : Int32) (vM_offAll : Int32) (vM_up : Int64) (vM_down : Int64) (vM_sharesUp : Int64) (vM_sharesDown : Int64) (vM_onUp : Int64) (vM_onDown : Int64) (vM_great : Int32) (vM_triedOff : Int32) (vM_triedLeaked : Int32) (vM_triedKept : Int32) (vM_fitting : Int32) (vM_firstSet : Int32) (vM_inAll : Int32) (vM_inAny : Int32) (vM_at : Int32) (vM_sort : Int32) (vM_from : Int32) (vM_value : Int64) (vM_fault : Int32) (cM_d : Nat → Int32) (cM_f : Nat → Int32) (cM_came : Nat → Int32) (cM_got : Nat → Int32) (cM_held : Nat → Int32) (cM_off : Nat → Int32) (cM_gets : Nat → Int32) (cM_gotNow : Nat → Int32) (cM_found : Nat → Int32) : va_W := [(aM, .inr (7, [.ref aM_d, .ref aM_e, .ref aM_f, .ref aM_kept, .int vM_isKept, .ref aM_found, .ref aM_tape, .int vM_taped, .ref aM_came, .ref aM_got, .ref aM_held, .ref aM_off, .int vM_leaked, .int vM_keptAll, .int vM_offAll, .ref aM_comesUp, .ref aM_comesDown, .long vM_up, .long vM_down, .long vM_sharesUp, .long vM_sharesDown, .long vM_onUp, .long vM_onDown, .int vM_great, .ref aM_path, .ref aM_gets, .int vM_triedOff, .int vM_triedLeaked, .int vM_triedKept, .ref aM_gotNow, .int vM_fitting, .int vM_firstSet, .int vM_inAll, .int vM_inAny, .int vM_at, .int vM_sort, .int vM_from, .long vM_value, .int vM_fault, .ref aM_bitsOf, .ref aM_sizeOf, .ref aM_number, .ref aM_passing])), (aM_d, .inl (cyI, 64, .inl cM_d)), (aM_f, .inl (cyI, 64, .inl cM_f)), (aM_came, .inl (cyI, 10, .inl cM_came)), (aM_got, .inl (cyI, 10, .inl cM_got)), (aM_held, .inl (cyI, 10, .inl cM_held)), (aM_off, .inl (cyI, 10, .inl cM_off)), (aM_gets, .inl (cyI, 10, .inl cM_gets)), (aM_gotNow, .inl (cyI, 10, .inl cM_gotNow)), (aM_found, .inl (cyI, 7, .inl cM_found))]
set_option maxHeartbeats 4000000 in
set_option maxRecDepth 100000 in
theorem t_X8_deal (l : Launch) (D : va_G) (cyI cyJ cyZ cyB cyO : ClassId) (aM aM_d aM_f aM_came aM_got aM_held aM_off aM_gets aM_gotNow aM_found aM_e aM_kept aM_tape aM_comesUp aM_comesDown aM_path aM_bitsOf aM_sizeOf aM_number aM_passing : Nat) (vM_isKept : Int32) (vM_taped : Int32) (vM_leaked : Int32) (vM_keptAll : Int32) (vM_offAll : Int32) (vM_up : Int64) (vM_down : Int64) (vM_sharesUp : Int64) (vM_sharesDown : Int64) (vM_onUp : Int64) (vM_onDown : Int64) (vM_great : Int32) (vM_triedOff : Int32) (vM_triedLeaked : Int32) (vM_triedKept : Int32) (vM_fitting : Int32) (vM_firstSet : Int32) (vM_inAll : Int32) (vM_inAny : Int32) (vM_at : Int32) (vM_sort : Int32) (vM_from : Int32) (vM_value : Int64) (vM_fault : Int32) (cM_d : Nat → Int32) (cM_f : Nat → Int32) (cM_came : Nat → Int32) (cM_got : Nat → Int32) (cM_held : Nat → Int32) (cM_off : Nat → Int32) (cM_gets : Nat → Int32) (cM_gotNow : Nat → Int32) (cM_found : Nat → Int32) (x1 : Int32) (out : Int32 × Int32 × Int32 × Int32 × Int32 × Int32 × Int32 × (Nat → Int32) × (Nat → Int32) × (Nat → Int32) × (Nat → Int32) × (Nat → Int32) × (Nat → Int32) × (Nat → Int32) × (Nat → Int32) × (Nat → Int32)) (h : f_X8_deal x1 vM_leaked vM_keptAll vM_offAll vM_triedOff vM_triedLeaked vM_triedKept cM_d cM_f cM_came cM_got cM_held cM_off cM_gets cM_gotNow cM_found = some out) : Mi l yX8_deal wsX8_deal ({ frames := 6, cells := 0, slots := 0, locals := 140 } : Room) D (tyA cyI cyJ cyZ cyB cyO) [.ref aM, .int x1] (w_X8_deal cyI cyJ cyZ cyB cyO aM aM_d aM_f aM_came aM_got aM_held aM_off aM_gets aM_gotNow aM_found aM_e aM_kept aM_tape aM_comesUp aM_comesDown aM_path aM_bitsOf aM_sizeOf aM_number aM_passing vM_isKept vM_taped vM_leaked vM_keptAll vM_offAll vM_up vM_down vM_sharesUp vM_sharesDown vM_onUp vM_onDown vM_great vM_triedOff vM_triedLeaked vM_triedKept vM_fitting vM_firstSet vM_inAll vM_inAny vM_at vM_sort vM_from vM_value vM_fault cM_d cM_f cM_came cM_got cM_held cM_off cM_gets cM_gotNow cM_found) (w_X8_deal cyI cyJ cyZ cyB cyO aM aM_d aM_f aM_came aM_got aM_held aM_off aM_gets aM_gotNow aM_found aM_e aM_kept aM_tape aM_comesUp aM_comesDown aM_path aM_bitsOf aM_sizeOf aM_number aM_passing vM_isKept vM_taped out.2.1 out.2.2.1 out.2.2.2.1 vM_up vM_down vM_sharesUp vM_sharesDown vM_onUp vM_onDown vM_great out.2.2.2.2.1 out.2.2.2.2.2.1 out.2.2.2.2.2.2.1 vM_fitting vM_firstSet vM_inAll vM_inAny vM_at vM_sort vM_from vM_value vM_fault out.2.2.2.2.2.2.2.1 out.2.2.2.2.2.2.2.2.1 out.2.2.2.2.2.2.2.2.2.1 out.2.2.2.2.2.2.2.2.2.2.1 out.2.2.2.2.2.2.2.2.2.2.2.1 out.2.2.2.2.2.2.2.2.2.2.2.2.1 out.2.2.2.2.2.2.2.2.2.2.2.2.2.1 out.2.2.2.2.2.2.2.2.2.2.2.2.2.2.1 out.2.2.2.2.2.2.2.2.2.2.2.2.2.2.2) out.1 := by
  refine Mi.mk (cc := cX8_deal) (maxL := 8) (rt := .int) (own := RX8) (by decide) rfl rfl (Nat.le_of_ble_eq_true rfl) ?_
  intro p e s m args below meth c A Q F hK hP hD hA hret ls hl
  obtain ⟨hx, hb, hml, hown, hts⟩ := id F
  have hS : va_S A s.heap s.heap [] := va_S.rf
  have hl : lv_has ls 8 [(0, .ref aM), (1, .int x1)] := hl
  have in_X8 : ∀ w ∈ wsX80, w ∈ wsX8_deal := by decide +kernel
  have q2 := hts (Cond.methodLink RX8 243 yX8_whyHours) (List.mem_of_getElem? (i := 2) rfl)
  have q21 := hts (Cond.methodLink RX8 236 yX8_keepGets) (List.mem_of_getElem? (i := 21) rfl)
  have q1 := hts (Cond.fieldLink RX8 7 "ThirdFountainModel" "d" "[I") (List.mem_of_getElem? (i := 1) rfl)
  have q15 := hts (Cond.methodLink RX8 115 yX8_finds) (List.mem_of_getElem? (i := 15) rfl)
  have q53 := hts (Cond.methodLink RX8 74 yX8_its) (List.mem_of_getElem? (i := 53) rfl)
  have q70 := hts (Cond.methodLink RX8 105 yX8_sets) (List.mem_of_getElem? (i := 70) rfl)
  have q27 := hts (Cond.methodLink RX8 224 yX8_tries) (List.mem_of_getElem? (i := 27) rfl)
  have q74 := hts (Cond.methodLink RX8 239 yX8_getting) (List.mem_of_getElem? (i := 74) rfl)
  unfold f_X8_deal at h
  refine lv_aload_n hx hb dX8_deal_0 rfl (lv_at hl 0 rfl) ?_
  refine lv_iload_n hx hb dX8_deal_1 rfl (lv_at hl 1 rfl) ?_
  obtain ⟨u1, hu1, h⟩ := bd_some h
  refine cl_Vi (rest := []) F hK hP hD hS hA hl (t_X8_whyHours l D cyI cyJ cyZ cyB cyO aM aM_d aM_e aM_f aM_kept aM_found aM_tape aM_came aM_got aM_held aM_off aM_comesUp aM_comesDown aM_path aM_gets aM_gotNow aM_bitsOf aM_sizeOf aM_number aM_passing vM_isKept vM_taped vM_leaked vM_keptAll vM_offAll vM_up vM_down vM_sharesUp vM_sharesDown vM_onUp vM_onDown vM_great vM_triedOff vM_triedLeaked vM_triedKept vM_fitting vM_firstSet vM_inAll vM_inAny vM_at vM_sort vM_from vM_value vM_fault cM_d x1 u1 hu1) (cwV 1 hts gX8_deal_X8_whyHours rfl rfl rfl (by decide +kernel) ⟨Nat.le_of_ble_eq_true rfl, Nat.le_of_ble_eq_true rfl⟩) 0 [0, 1] [1, 2, 0, 0, 0, 0, 0, 0, 0, 0] [] (w_X8_deal cyI cyJ cyZ cyB cyO aM aM_d aM_f aM_came aM_got aM_held aM_off aM_gets aM_gotNow aM_found aM_e aM_kept aM_tape aM_comesUp aM_comesDown aM_path aM_bitsOf aM_sizeOf aM_number aM_passing vM_isKept vM_taped vM_leaked vM_keptAll vM_offAll vM_up vM_down vM_sharesUp vM_sharesDown vM_onUp vM_onDown vM_great vM_triedOff vM_triedLeaked vM_triedKept vM_fitting vM_firstSet vM_inAll vM_inAny vM_at vM_sort vM_from vM_value vM_fault cM_d cM_f cM_came cM_got cM_held cM_off cM_gets cM_gotNow cM_found) rfl rfl rfl rfl rfl (by decide +kernel) rfl rfl (Nat.le_of_ble_eq_true rfl) ⟨Nat.zero_le _, Nat.zero_le _⟩ dX8_deal_2 (fun H locs hP hD hS => ?_)
  refine lv_istore_n (lv' := [(2, .int u1), (0, .ref aM), (1, .int x1)]) hx hb dX8_deal_5 rfl hl (by decide) rfl (fun ls hl => ?_)
  refine lv_iload_n hx hb dX8_deal_6 rfl (lv_at hl 0 rfl) ?_
  refine lv_if_lt (tgt := 16) hx hb dX8_deal_7 (by decide) (fun c2 => ?_) (fun c2 => ?_)
  · have h := br_pos c2 h
    refine lv_aload_n hx hb dX8_deal_16 rfl (lv_at hl 1 rfl) ?_
    refine lv_iload_n hx hb dX8_deal_17 rfl (lv_at hl 2 rfl) ?_
    obtain ⟨u3, hu3, h⟩ := bd_some h
    refine cl_Vv (rest := []) F hK hP hD hS hA hl (t_X8_keepGets l D cyI cyJ cyZ cyB cyO aM aM_d aM_f aM_came aM_got aM_held aM_off aM_gets aM_gotNow aM_e aM_kept aM_found aM_tape aM_comesUp aM_comesDown aM_path aM_bitsOf aM_sizeOf aM_number aM_passing vM_isKept vM_taped vM_leaked vM_keptAll vM_offAll vM_up vM_down vM_sharesUp vM_sharesDown vM_onUp vM_onDown vM_great vM_triedOff vM_triedLeaked vM_triedKept vM_fitting vM_firstSet vM_inAll vM_inAny vM_at vM_sort vM_from vM_value vM_fault cM_d cM_f cM_came cM_got cM_held cM_off cM_gets cM_gotNow x1 u3 hu3) (cwV 1 hts gX8_deal_X8_keepGets rfl rfl rfl (by decide +kernel) ⟨Nat.le_of_ble_eq_true rfl, Nat.le_of_ble_eq_true rfl⟩) 0 [0, 1, 2, 3, 4, 5, 6, 7, 8] [1, 2, 3, 4, 5, 6, 7, 8, 9, 0] [] (w_X8_deal cyI cyJ cyZ cyB cyO aM aM_d aM_f aM_came aM_got aM_held aM_off aM_gets aM_gotNow aM_found aM_e aM_kept aM_tape aM_comesUp aM_comesDown aM_path aM_bitsOf aM_sizeOf aM_number aM_passing vM_isKept vM_taped u3.1 u3.2.1 u3.2.2.1 vM_up vM_down vM_sharesUp vM_sharesDown vM_onUp vM_onDown vM_great u3.2.2.2.1 u3.2.2.2.2.1 u3.2.2.2.2.2.1 vM_fitting vM_firstSet vM_inAll vM_inAny vM_at vM_sort vM_from vM_value vM_fault u3.2.2.2.2.2.2.1 u3.2.2.2.2.2.2.2.1 u3.2.2.2.2.2.2.2.2.1 u3.2.2.2.2.2.2.2.2.2.1 u3.2.2.2.2.2.2.2.2.2.2.1 u3.2.2.2.2.2.2.2.2.2.2.2.1 u3.2.2.2.2.2.2.2.2.2.2.2.2.1 u3.2.2.2.2.2.2.2.2.2.2.2.2.2 cM_found) rfl rfl rfl rfl rfl (by decide +kernel) rfl rfl (Nat.le_of_ble_eq_true rfl) ⟨Nat.zero_le _, Nat.zero_le _⟩ dX8_deal_18 (fun H locs hP hD hS => ?_)
    refine lv_iconst (v := 1) hx hb dX8_deal_21 (by decide) ?_
    refine lv_istore_n (lv' := [(3, .int (1 : Int32)), (2, .int u1), (0, .ref aM), (1, .int x1)]) hx hb dX8_deal_22 rfl hl (by decide) rfl (fun ls hl => ?_)
    have lp23 : ∀ (k23 : Nat) (y3 : Int32) (vM_leaked : Int32) (vM_keptAll : Int32) (vM_offAll : Int32) (vM_triedOff : Int32) (vM_triedLeaked : Int32) (vM_triedKept : Int32) (cM_d : Nat → Int32) (cM_f : Nat → Int32) (cM_came : Nat → Int32) (cM_got : Nat → Int32) (cM_held : Nat → Int32) (cM_off : Nat → Int32) (cM_gets : Nat → Int32) (cM_gotNow : Nat → Int32) (cM_found : Nat → Int32) (H : Heap) (locs : List Loc) (ls : Array Slot), va_P D vwCl (w_X8_deal cyI cyJ cyZ cyB cyO aM aM_d aM_f aM_came aM_got aM_held aM_off aM_gets aM_gotNow aM_found aM_e aM_kept aM_tape aM_comesUp aM_comesDown aM_path aM_bitsOf aM_sizeOf aM_number aM_passing vM_isKept vM_taped vM_leaked vM_keptAll vM_offAll vM_up vM_down vM_sharesUp vM_sharesDown vM_onUp vM_onDown vM_great vM_triedOff vM_triedLeaked vM_triedKept vM_fitting vM_firstSet vM_inAll vM_inAny vM_at vM_sort vM_from vM_value vM_fault cM_d cM_f cM_came cM_got cM_held cM_off cM_gets cM_gotNow cM_found) H → va_D A (w_X8_deal cyI cyJ cyZ cyB cyO aM aM_d aM_f aM_came aM_got aM_held aM_off aM_gets aM_gotNow aM_found aM_e aM_kept aM_tape aM_comesUp aM_comesDown aM_path aM_bitsOf aM_sizeOf aM_number aM_passing vM_isKept vM_taped vM_leaked vM_keptAll vM_offAll vM_up vM_down vM_sharesUp vM_sharesDown vM_onUp vM_onDown vM_great vM_triedOff vM_triedLeaked vM_triedKept vM_fitting vM_firstSet vM_inAll vM_inAny vM_at vM_sort vM_from vM_value vM_fault cM_d cM_f cM_came cM_got cM_held cM_off cM_gets cM_gotNow cM_found) → va_S A s.heap H locs → lv_has ls 8 [(3, .int y3), (0, .ref aM), (1, .int x1)] → (f_X8_deal_L23 x1 k23) (y3, vM_leaked, vM_keptAll, vM_offAll, vM_triedOff, vM_triedLeaked, vM_triedKept, cM_d, cM_f, cM_came, cM_got, cM_held, cM_off, cM_gets, cM_gotNow, cM_found) = some out → W p l e ({ frames := 6, cells := 0, slots := 0, locals := 140 } : Room) s m args below meth c H locs 0 0 Q (F0 m 23 ls []) := by
      intro k23
      induction k23 with
      | zero => intro y3 vM_leaked vM_keptAll vM_offAll vM_triedOff vM_triedLeaked vM_triedKept cM_d cM_f cM_came cM_got cM_held cM_off cM_gets cM_gotNow cM_found H locs ls hP hD hS hl h; cases h
      | succ k23 ih23 =>
        intro y3 vM_leaked vM_keptAll vM_offAll vM_triedOff vM_triedLeaked vM_triedKept cM_d cM_f cM_came cM_got cM_held cM_off cM_gets cM_gotNow cM_found H locs ls hP hD hS hl h
        have h : f_X8_deal_L23_b x1 (f_X8_deal_L23 x1 k23) y3 vM_leaked vM_keptAll vM_offAll vM_triedOff vM_triedLeaked vM_triedKept cM_d cM_f cM_came cM_got cM_held cM_off cM_gets cM_gotNow cM_found = some out := h
        unfold f_X8_deal_L23_b at h
        refine lv_iload_n hx hb dX8_deal_23 rfl (lv_at hl 0 rfl) ?_
        refine lv_aload_n hx hb dX8_deal_24 rfl (lv_at hl 1 rfl) ?_
        refine va_get (D := D) (ci := 7) (v := .ref aM_d) (C := RX8) (T := TX8) (N := 43) hx hb hts in_X8 hown hK hP 0 rfl rfl 0 (by decide) q1 (fun _ h9 => h9) rfl dX8_deal_25 ?_
        refine lv_iconst (v := 0) hx hb dX8_deal_28 (by decide) ?_
        refine va_iald hx hb hK hP 1 0 rfl rfl (by unfold vp_in; decide) dX8_deal_29 ?_
        refine lv_icmp_ge (tgt := 157) hx hb dX8_deal_30 (by decide) (fun c4 => ?_) (fun c4 => ?_)
        · have h := br_pos c4 h
          refine lv_aload_n hx hb dX8_deal_157 rfl (lv_at hl 1 rfl) ?_
          refine lv_iconst (v := 3) hx hb dX8_deal_158 (by decide) ?_
          obtain ⟨u5, hu5, h⟩ := bd_some h
          refine cl_Vi (rest := []) F hK hP hD hS hA hl (t_X8_finds l D cyI cyJ cyZ cyB cyO aM aM_found aM_d aM_e aM_f aM_kept aM_tape aM_came aM_got aM_held aM_off aM_comesUp aM_comesDown aM_path aM_gets aM_gotNow aM_bitsOf aM_sizeOf aM_number aM_passing vM_isKept vM_taped vM_leaked vM_keptAll vM_offAll vM_up vM_down vM_sharesUp vM_sharesDown vM_onUp vM_onDown vM_great vM_triedOff vM_triedLeaked vM_triedKept vM_fitting vM_firstSet vM_inAll vM_inAny vM_at vM_sort vM_from vM_value vM_fault cM_found (3 : Int32) u5 hu5) (cwV 1 hts gX8_deal_X8_finds rfl rfl rfl (by decide +kernel) ⟨Nat.le_of_ble_eq_true rfl, Nat.le_of_ble_eq_true rfl⟩) 0 [0, 9] [1, 0, 0, 0, 0, 0, 0, 0, 0, 2] [] (w_X8_deal cyI cyJ cyZ cyB cyO aM aM_d aM_f aM_came aM_got aM_held aM_off aM_gets aM_gotNow aM_found aM_e aM_kept aM_tape aM_comesUp aM_comesDown aM_path aM_bitsOf aM_sizeOf aM_number aM_passing vM_isKept vM_taped vM_leaked vM_keptAll vM_offAll vM_up vM_down vM_sharesUp vM_sharesDown vM_onUp vM_onDown vM_great vM_triedOff vM_triedLeaked vM_triedKept vM_fitting vM_firstSet vM_inAll vM_inAny vM_at vM_sort vM_from vM_value vM_fault cM_d cM_f cM_came cM_got cM_held cM_off cM_gets cM_gotNow u5.2) rfl rfl rfl rfl rfl (by decide +kernel) rfl rfl (Nat.le_of_ble_eq_true rfl) ⟨Nat.zero_le _, Nat.zero_le _⟩ dX8_deal_159 (fun H locs hP hD hS => ?_)
          obtain rfl := Option.some.inj h
          exact hret _ _ _ _ _ hP hD hS dX8_deal_162 rfl rfl
        · have h := br_neg c4 h
          refine lv_iload_n hx hb dX8_deal_33 rfl (lv_at hl 0 rfl) ?_
          refine lv_iconst (v := 1) hx hb dX8_deal_34 (by decide) ?_
          refine lv_iadd hx hb dX8_deal_35 ?_
          refine lv_topi (fun z6 ez6 => ?_)
          have h := nm_at ez6 h
          refine lv_istore (lv' := [(4, .int z6), (3, .int y3), (0, .ref aM), (1, .int x1)]) hx hb dX8_deal_36 hl (by decide) rfl (fun ls hl => ?_)
          have lp38 : ∀ (k38 : Nat) (y3 : Int32) (y4 : Int32) (vM_leaked : Int32) (vM_keptAll : Int32) (vM_offAll : Int32) (vM_triedOff : Int32) (vM_triedLeaked : Int32) (vM_triedKept : Int32) (cM_d : Nat → Int32) (cM_f : Nat → Int32) (cM_came : Nat → Int32) (cM_got : Nat → Int32) (cM_held : Nat → Int32) (cM_off : Nat → Int32) (cM_gets : Nat → Int32) (cM_gotNow : Nat → Int32) (cM_found : Nat → Int32) (H : Heap) (locs : List Loc) (ls : Array Slot), va_P D vwCl (w_X8_deal cyI cyJ cyZ cyB cyO aM aM_d aM_f aM_came aM_got aM_held aM_off aM_gets aM_gotNow aM_found aM_e aM_kept aM_tape aM_comesUp aM_comesDown aM_path aM_bitsOf aM_sizeOf aM_number aM_passing vM_isKept vM_taped vM_leaked vM_keptAll vM_offAll vM_up vM_down vM_sharesUp vM_sharesDown vM_onUp vM_onDown vM_great vM_triedOff vM_triedLeaked vM_triedKept vM_fitting vM_firstSet vM_inAll vM_inAny vM_at vM_sort vM_from vM_value vM_fault cM_d cM_f cM_came cM_got cM_held cM_off cM_gets cM_gotNow cM_found) H → va_D A (w_X8_deal cyI cyJ cyZ cyB cyO aM aM_d aM_f aM_came aM_got aM_held aM_off aM_gets aM_gotNow aM_found aM_e aM_kept aM_tape aM_comesUp aM_comesDown aM_path aM_bitsOf aM_sizeOf aM_number aM_passing vM_isKept vM_taped vM_leaked vM_keptAll vM_offAll vM_up vM_down vM_sharesUp vM_sharesDown vM_onUp vM_onDown vM_great vM_triedOff vM_triedLeaked vM_triedKept vM_fitting vM_firstSet vM_inAll vM_inAny vM_at vM_sort vM_from vM_value vM_fault cM_d cM_f cM_came cM_got cM_held cM_off cM_gets cM_gotNow cM_found) → va_S A s.heap H locs → lv_has ls 8 [(3, .int y3), (4, .int y4), (0, .ref aM), (1, .int x1)] → (f_X8_deal_L38 x1 (f_X8_deal_L23 x1 k23) k38) (y3, y4, vM_leaked, vM_keptAll, vM_offAll, vM_triedOff, vM_triedLeaked, vM_triedKept, cM_d, cM_f, cM_came, cM_got, cM_held, cM_off, cM_gets, cM_gotNow, cM_found) = some out → W p l e ({ frames := 6, cells := 0, slots := 0, locals := 140 } : Room) s m args below meth c H locs 0 0 Q (F0 m 38 ls []) := by
            intro k38
            induction k38 with
            | zero => intro y3 y4 vM_leaked vM_keptAll vM_offAll vM_triedOff vM_triedLeaked vM_triedKept cM_d cM_f cM_came cM_got cM_held cM_off cM_gets cM_gotNow cM_found H locs ls hP hD hS hl h; cases h
            | succ k38 ih38 =>
              intro y3 y4 vM_leaked vM_keptAll vM_offAll vM_triedOff vM_triedLeaked vM_triedKept cM_d cM_f cM_came cM_got cM_held cM_off cM_gets cM_gotNow cM_found H locs ls hP hD hS hl h
              have h : f_X8_deal_L38_b x1 (f_X8_deal_L23 x1 k23) (f_X8_deal_L38 x1 (f_X8_deal_L23 x1 k23) k38) y3 y4 vM_leaked vM_keptAll vM_offAll vM_triedOff vM_triedLeaked vM_triedKept cM_d cM_f cM_came cM_got cM_held cM_off cM_gets cM_gotNow cM_found = some out := h
              unfold f_X8_deal_L38_b at h
              refine lv_iload hx hb dX8_deal_38 (lv_at hl 1 rfl) ?_
              refine lv_aload_n hx hb dX8_deal_40 rfl (lv_at hl 2 rfl) ?_
              refine va_get (D := D) (ci := 7) (v := .ref aM_d) (C := RX8) (T := TX8) (N := 43) hx hb hts in_X8 hown hK hP 0 rfl rfl 0 (by decide) q1 (fun _ h9 => h9) rfl dX8_deal_41 ?_
              refine lv_iconst (v := 0) hx hb dX8_deal_44 (by decide) ?_
              refine va_iald hx hb hK hP 1 0 rfl rfl (by unfold vp_in; decide) dX8_deal_45 ?_
              refine lv_icmp_ge (tgt := 151) hx hb dX8_deal_46 (by decide) (fun c7 => ?_) (fun c7 => ?_)
              · have h := br_pos c7 h
                refine lv_iinc (v := y3 + 1) (lv' := [(3, .int (y3 + 1)), (4, .int y4), (0, .ref aM), (1, .int x1)]) hx hb dX8_deal_151 hl (k := 0) rfl rfl (by decide) rfl (fun ls hl => ?_)
                refine lv_goto (tgt := 23) hx hb dX8_deal_154 (by decide) ?_
                exact ih23 (y3 + 1) vM_leaked vM_keptAll vM_offAll vM_triedOff vM_triedLeaked vM_triedKept cM_d cM_f cM_came cM_got cM_held cM_off cM_gets cM_gotNow cM_found _ _ _ hP hD hS (lv_sub hl [0, 2, 3] rfl) h
              · have h := br_neg c7 h
                refine lv_aload_n hx hb dX8_deal_49 rfl (lv_at hl 2 rfl) ?_
                refine lv_iload_n hx hb dX8_deal_50 rfl (lv_at hl 0 rfl) ?_
                refine lv_iconst (v := 1) hx hb dX8_deal_51 (by decide) ?_
                obtain ⟨u8, hu8, h⟩ := bd_some h
                refine cl_Vi (rest := []) F hK hP hD hS hA hl (t_X8_its l D cyI cyJ cyZ cyB cyO aM aM_d aM_e aM_f aM_kept aM_found aM_tape aM_came aM_got aM_held aM_off aM_comesUp aM_comesDown aM_path aM_gets aM_gotNow aM_bitsOf aM_sizeOf aM_number aM_passing vM_isKept vM_taped vM_leaked vM_keptAll vM_offAll vM_up vM_down vM_sharesUp vM_sharesDown vM_onUp vM_onDown vM_great vM_triedOff vM_triedLeaked vM_triedKept vM_fitting vM_firstSet vM_inAll vM_inAny vM_at vM_sort vM_from vM_value vM_fault cM_d y3 (1 : Int32) u8 hu8) (cwV 2 hts gX8_deal_X8_its rfl rfl rfl (by decide +kernel) ⟨Nat.le_of_ble_eq_true rfl, Nat.le_of_ble_eq_true rfl⟩) 0 [0, 1] [1, 2, 0, 0, 0, 0, 0, 0, 0, 0] [] (w_X8_deal cyI cyJ cyZ cyB cyO aM aM_d aM_f aM_came aM_got aM_held aM_off aM_gets aM_gotNow aM_found aM_e aM_kept aM_tape aM_comesUp aM_comesDown aM_path aM_bitsOf aM_sizeOf aM_number aM_passing vM_isKept vM_taped vM_leaked vM_keptAll vM_offAll vM_up vM_down vM_sharesUp vM_sharesDown vM_onUp vM_onDown vM_great vM_triedOff vM_triedLeaked vM_triedKept vM_fitting vM_firstSet vM_inAll vM_inAny vM_at vM_sort vM_from vM_value vM_fault cM_d cM_f cM_came cM_got cM_held cM_off cM_gets cM_gotNow cM_found) rfl rfl rfl rfl rfl (by decide +kernel) rfl rfl (Nat.le_of_ble_eq_true rfl) ⟨Nat.zero_le _, Nat.zero_le _⟩ dX8_deal_52 (fun H locs hP hD hS => ?_)
                refine lv_istore (lv' := [(5, .int u8), (3, .int y3), (4, .int y4), (0, .ref aM), (1, .int x1)]) hx hb dX8_deal_55 hl (by decide) rfl (fun ls hl => ?_)
                refine lv_aload_n hx hb dX8_deal_57 rfl (lv_at hl 3 rfl) ?_
                refine lv_iload hx hb dX8_deal_58 (lv_at hl 2 rfl) ?_
                refine lv_iconst (v := 1) hx hb dX8_deal_60 (by decide) ?_
                obtain ⟨u9, hu9, h⟩ := bd_some h
                refine cl_Vi (rest := []) F hK hP hD hS hA hl (t_X8_its l D cyI cyJ cyZ cyB cyO aM aM_d aM_e aM_f aM_kept aM_found aM_tape aM_came aM_got aM_held aM_off aM_comesUp aM_comesDown aM_path aM_gets aM_gotNow aM_bitsOf aM_sizeOf aM_number aM_passing vM_isKept vM_taped vM_leaked vM_keptAll vM_offAll vM_up vM_down vM_sharesUp vM_sharesDown vM_onUp vM_onDown vM_great vM_triedOff vM_triedLeaked vM_triedKept vM_fitting vM_firstSet vM_inAll vM_inAny vM_at vM_sort vM_from vM_value vM_fault cM_d y4 (1 : Int32) u9 hu9) (cwV 2 hts gX8_deal_X8_its rfl rfl rfl (by decide +kernel) ⟨Nat.le_of_ble_eq_true rfl, Nat.le_of_ble_eq_true rfl⟩) 0 [0, 1] [1, 2, 0, 0, 0, 0, 0, 0, 0, 0] [] (w_X8_deal cyI cyJ cyZ cyB cyO aM aM_d aM_f aM_came aM_got aM_held aM_off aM_gets aM_gotNow aM_found aM_e aM_kept aM_tape aM_comesUp aM_comesDown aM_path aM_bitsOf aM_sizeOf aM_number aM_passing vM_isKept vM_taped vM_leaked vM_keptAll vM_offAll vM_up vM_down vM_sharesUp vM_sharesDown vM_onUp vM_onDown vM_great vM_triedOff vM_triedLeaked vM_triedKept vM_fitting vM_firstSet vM_inAll vM_inAny vM_at vM_sort vM_from vM_value vM_fault cM_d cM_f cM_came cM_got cM_held cM_off cM_gets cM_gotNow cM_found) rfl rfl rfl rfl rfl (by decide +kernel) rfl rfl (Nat.le_of_ble_eq_true rfl) ⟨Nat.zero_le _, Nat.zero_le _⟩ dX8_deal_61 (fun H locs hP hD hS => ?_)
                refine lv_istore (lv' := [(6, .int u9), (5, .int u8), (3, .int y3), (4, .int y4), (0, .ref aM), (1, .int x1)]) hx hb dX8_deal_64 hl (by decide) rfl (fun ls hl => ?_)
                refine lv_iload hx hb dX8_deal_66 (lv_at hl 0 rfl) ?_
                refine lv_iload_n hx hb dX8_deal_68 rfl (lv_at hl 2 rfl) ?_
                refine lv_icmp_lt (tgt := 75) hx hb dX8_deal_69 (by decide) (fun c10 => ?_) (fun c10 => ?_)
                · have h := br_pos c10 h
                  refine lv_aload_n hx hb dX8_deal_75 rfl (lv_at hl 4 rfl) ?_
                  refine lv_iload_n hx hb dX8_deal_76 rfl (lv_at hl 2 rfl) ?_
                  refine lv_iconst (v := 1) hx hb dX8_deal_77 (by decide) ?_
                  refine lv_iload hx hb dX8_deal_78 (lv_at hl 0 rfl) ?_
                  obtain ⟨u11, hu11, h⟩ := bd_some h
                  refine cl_Vv (rest := []) F hK hP hD hS hA hl (t_X8_sets l D cyI cyJ cyZ cyB cyO aM aM_d aM_e aM_f aM_kept aM_found aM_tape aM_came aM_got aM_held aM_off aM_comesUp aM_comesDown aM_path aM_gets aM_gotNow aM_bitsOf aM_sizeOf aM_number aM_passing vM_isKept vM_taped vM_leaked vM_keptAll vM_offAll vM_up vM_down vM_sharesUp vM_sharesDown vM_onUp vM_onDown vM_great vM_triedOff vM_triedLeaked vM_triedKept vM_fitting vM_firstSet vM_inAll vM_inAny vM_at vM_sort vM_from vM_value vM_fault cM_d y3 (1 : Int32) u9 u11 hu11) (cwV 3 hts gX8_deal_X8_sets rfl rfl rfl (by decide +kernel) ⟨Nat.le_of_ble_eq_true rfl, Nat.le_of_ble_eq_true rfl⟩) 0 [0, 1] [1, 2, 0, 0, 0, 0, 0, 0, 0, 0] [] (w_X8_deal cyI cyJ cyZ cyB cyO aM aM_d aM_f aM_came aM_got aM_held aM_off aM_gets aM_gotNow aM_found aM_e aM_kept aM_tape aM_comesUp aM_comesDown aM_path aM_bitsOf aM_sizeOf aM_number aM_passing vM_isKept vM_taped vM_leaked vM_keptAll vM_offAll vM_up vM_down vM_sharesUp vM_sharesDown vM_onUp vM_onDown vM_great vM_triedOff vM_triedLeaked vM_triedKept vM_fitting vM_firstSet vM_inAll vM_inAny vM_at vM_sort vM_from vM_value vM_fault u11 cM_f cM_came cM_got cM_held cM_off cM_gets cM_gotNow cM_found) rfl rfl rfl rfl rfl (by decide +kernel) rfl rfl (Nat.le_of_ble_eq_true rfl) ⟨Nat.zero_le _, Nat.zero_le _⟩ dX8_deal_80 (fun H locs hP hD hS => ?_)
                  refine lv_aload_n hx hb dX8_deal_83 rfl (lv_at hl 4 rfl) ?_
                  refine lv_iload hx hb dX8_deal_84 (lv_at hl 3 rfl) ?_
                  refine lv_iconst (v := 1) hx hb dX8_deal_86 (by decide) ?_
                  refine lv_iload hx hb dX8_deal_87 (lv_at hl 1 rfl) ?_
                  obtain ⟨u12, hu12, h⟩ := bd_some h
                  refine cl_Vv (rest := []) F hK hP hD hS hA hl (t_X8_sets l D cyI cyJ cyZ cyB cyO aM aM_d aM_e aM_f aM_kept aM_found aM_tape aM_came aM_got aM_held aM_off aM_comesUp aM_comesDown aM_path aM_gets aM_gotNow aM_bitsOf aM_sizeOf aM_number aM_passing vM_isKept vM_taped vM_leaked vM_keptAll vM_offAll vM_up vM_down vM_sharesUp vM_sharesDown vM_onUp vM_onDown vM_great vM_triedOff vM_triedLeaked vM_triedKept vM_fitting vM_firstSet vM_inAll vM_inAny vM_at vM_sort vM_from vM_value vM_fault u11 y4 (1 : Int32) u8 u12 hu12) (cwV 3 hts gX8_deal_X8_sets rfl rfl rfl (by decide +kernel) ⟨Nat.le_of_ble_eq_true rfl, Nat.le_of_ble_eq_true rfl⟩) 0 [0, 1] [1, 2, 0, 0, 0, 0, 0, 0, 0, 0] [] (w_X8_deal cyI cyJ cyZ cyB cyO aM aM_d aM_f aM_came aM_got aM_held aM_off aM_gets aM_gotNow aM_found aM_e aM_kept aM_tape aM_comesUp aM_comesDown aM_path aM_bitsOf aM_sizeOf aM_number aM_passing vM_isKept vM_taped vM_leaked vM_keptAll vM_offAll vM_up vM_down vM_sharesUp vM_sharesDown vM_onUp vM_onDown vM_great vM_triedOff vM_triedLeaked vM_triedKept vM_fitting vM_firstSet vM_inAll vM_inAny vM_at vM_sort vM_from vM_value vM_fault u12 cM_f cM_came cM_got cM_held cM_off cM_gets cM_gotNow cM_found) rfl rfl rfl rfl rfl (by decide +kernel) rfl rfl (Nat.le_of_ble_eq_true rfl) ⟨Nat.zero_le _, Nat.zero_le _⟩ dX8_deal_89 (fun H locs hP hD hS => ?_)
                  refine lv_aload_n hx hb dX8_deal_92 rfl (lv_at hl 4 rfl) ?_
                  refine lv_iload_n hx hb dX8_deal_93 rfl (lv_at hl 5 rfl) ?_
                  obtain ⟨u13, hu13, h⟩ := bd_some h
                  refine cl_Vv (rest := []) F hK hP hD hS hA hl (t_X8_tries l D cyI cyJ cyZ cyB cyO aM aM_d aM_f aM_came aM_got aM_held aM_off aM_gets aM_e aM_kept aM_found aM_tape aM_comesUp aM_comesDown aM_path aM_gotNow aM_bitsOf aM_sizeOf aM_number aM_passing vM_isKept vM_taped vM_leaked vM_keptAll vM_offAll vM_up vM_down vM_sharesUp vM_sharesDown vM_onUp vM_onDown vM_great vM_triedOff vM_triedLeaked vM_triedKept vM_fitting vM_firstSet vM_inAll vM_inAny vM_at vM_sort vM_from vM_value vM_fault u12 cM_f cM_came cM_got cM_held cM_off cM_gets x1 u13 hu13) (cwV 1 hts gX8_deal_X8_tries rfl rfl rfl (by decide +kernel) ⟨Nat.le_of_ble_eq_true rfl, Nat.le_of_ble_eq_true rfl⟩) 0 [0, 1, 2, 3, 4, 5, 6, 7] [1, 2, 3, 4, 5, 6, 7, 8, 0, 0] [] (w_X8_deal cyI cyJ cyZ cyB cyO aM aM_d aM_f aM_came aM_got aM_held aM_off aM_gets aM_gotNow aM_found aM_e aM_kept aM_tape aM_comesUp aM_comesDown aM_path aM_bitsOf aM_sizeOf aM_number aM_passing vM_isKept vM_taped u13.1 u13.2.1 u13.2.2.1 vM_up vM_down vM_sharesUp vM_sharesDown vM_onUp vM_onDown vM_great u13.2.2.2.1 u13.2.2.2.2.1 u13.2.2.2.2.2.1 vM_fitting vM_firstSet vM_inAll vM_inAny vM_at vM_sort vM_from vM_value vM_fault u13.2.2.2.2.2.2.1 u13.2.2.2.2.2.2.2.1 u13.2.2.2.2.2.2.2.2.1 u13.2.2.2.2.2.2.2.2.2.1 u13.2.2.2.2.2.2.2.2.2.2.1 u13.2.2.2.2.2.2.2.2.2.2.2.1 u13.2.2.2.2.2.2.2.2.2.2.2.2 cM_gotNow cM_found) rfl rfl rfl rfl rfl (by decide +kernel) rfl rfl (Nat.le_of_ble_eq_true rfl) ⟨Nat.zero_le _, Nat.zero_le _⟩ dX8_deal_94 (fun H locs hP hD hS => ?_)
                  refine lv_aload_n hx hb dX8_deal_97 rfl (lv_at hl 4 rfl) ?_
                  refine lv_iload_n hx hb dX8_deal_98 rfl (lv_at hl 2 rfl) ?_
                  refine lv_iconst (v := 1) hx hb dX8_deal_99 (by decide) ?_
                  refine lv_iload hx hb dX8_deal_100 (lv_at hl 1 rfl) ?_
                  obtain ⟨u14, hu14, h⟩ := bd_some h
                  refine cl_Vv (rest := []) F hK hP hD hS hA hl (t_X8_sets l D cyI cyJ cyZ cyB cyO aM aM_d aM_e aM_f aM_kept aM_found aM_tape aM_came aM_got aM_held aM_off aM_comesUp aM_comesDown aM_path aM_gets aM_gotNow aM_bitsOf aM_sizeOf aM_number aM_passing vM_isKept vM_taped u13.1 u13.2.1 u13.2.2.1 vM_up vM_down vM_sharesUp vM_sharesDown vM_onUp vM_onDown vM_great u13.2.2.2.1 u13.2.2.2.2.1 u13.2.2.2.2.2.1 vM_fitting vM_firstSet vM_inAll vM_inAny vM_at vM_sort vM_from vM_value vM_fault u13.2.2.2.2.2.2.1 y3 (1 : Int32) u8 u14 hu14) (cwV 3 hts gX8_deal_X8_sets rfl rfl rfl (by decide +kernel) ⟨Nat.le_of_ble_eq_true rfl, Nat.le_of_ble_eq_true rfl⟩) 0 [0, 1] [1, 2, 0, 0, 0, 0, 0, 0, 0, 0] [] (w_X8_deal cyI cyJ cyZ cyB cyO aM aM_d aM_f aM_came aM_got aM_held aM_off aM_gets aM_gotNow aM_found aM_e aM_kept aM_tape aM_comesUp aM_comesDown aM_path aM_bitsOf aM_sizeOf aM_number aM_passing vM_isKept vM_taped u13.1 u13.2.1 u13.2.2.1 vM_up vM_down vM_sharesUp vM_sharesDown vM_onUp vM_onDown vM_great u13.2.2.2.1 u13.2.2.2.2.1 u13.2.2.2.2.2.1 vM_fitting vM_firstSet vM_inAll vM_inAny vM_at vM_sort vM_from vM_value vM_fault u14 u13.2.2.2.2.2.2.2.1 u13.2.2.2.2.2.2.2.2.1 u13.2.2.2.2.2.2.2.2.2.1 u13.2.2.2.2.2.2.2.2.2.2.1 u13.2.2.2.2.2.2.2.2.2.2.2.1 u13.2.2.2.2.2.2.2.2.2.2.2.2 cM_gotNow cM_found) rfl rfl rfl rfl rfl (by decide +kernel) rfl rfl (Nat.le_of_ble_eq_true rfl) ⟨Nat.zero_le _, Nat.zero_le _⟩ dX8_deal_102 (fun H locs hP hD hS => ?_)
                  refine lv_aload_n hx hb dX8_deal_105 rfl (lv_at hl 4 rfl) ?_
                  refine lv_iload hx hb dX8_deal_106 (lv_at hl 3 rfl) ?_
                  refine lv_iconst (v := 1) hx hb dX8_deal_108 (by decide) ?_
                  refine lv_iload hx hb dX8_deal_109 (lv_at hl 0 rfl) ?_
                  obtain ⟨u15, hu15, h⟩ := bd_some h
                  refine cl_Vv (rest := []) F hK hP hD hS hA hl (t_X8_sets l D cyI cyJ cyZ cyB cyO aM aM_d aM_e aM_f aM_kept aM_found aM_tape aM_came aM_got aM_held aM_off aM_comesUp aM_comesDown aM_path aM_gets aM_gotNow aM_bitsOf aM_sizeOf aM_number aM_passing vM_isKept vM_taped u13.1 u13.2.1 u13.2.2.1 vM_up vM_down vM_sharesUp vM_sharesDown vM_onUp vM_onDown vM_great u13.2.2.2.1 u13.2.2.2.2.1 u13.2.2.2.2.2.1 vM_fitting vM_firstSet vM_inAll vM_inAny vM_at vM_sort vM_from vM_value vM_fault u14 y4 (1 : Int32) u9 u15 hu15) (cwV 3 hts gX8_deal_X8_sets rfl rfl rfl (by decide +kernel) ⟨Nat.le_of_ble_eq_true rfl, Nat.le_of_ble_eq_true rfl⟩) 0 [0, 1] [1, 2, 0, 0, 0, 0, 0, 0, 0, 0] [] (w_X8_deal cyI cyJ cyZ cyB cyO aM aM_d aM_f aM_came aM_got aM_held aM_off aM_gets aM_gotNow aM_found aM_e aM_kept aM_tape aM_comesUp aM_comesDown aM_path aM_bitsOf aM_sizeOf aM_number aM_passing vM_isKept vM_taped u13.1 u13.2.1 u13.2.2.1 vM_up vM_down vM_sharesUp vM_sharesDown vM_onUp vM_onDown vM_great u13.2.2.2.1 u13.2.2.2.2.1 u13.2.2.2.2.2.1 vM_fitting vM_firstSet vM_inAll vM_inAny vM_at vM_sort vM_from vM_value vM_fault u15 u13.2.2.2.2.2.2.2.1 u13.2.2.2.2.2.2.2.2.1 u13.2.2.2.2.2.2.2.2.2.1 u13.2.2.2.2.2.2.2.2.2.2.1 u13.2.2.2.2.2.2.2.2.2.2.2.1 u13.2.2.2.2.2.2.2.2.2.2.2.2 cM_gotNow cM_found) rfl rfl rfl rfl rfl (by decide +kernel) rfl rfl (Nat.le_of_ble_eq_true rfl) ⟨Nat.zero_le _, Nat.zero_le _⟩ dX8_deal_111 (fun H locs hP hD hS => ?_)
                  refine lv_iconst (v := 1) hx hb dX8_deal_114 (by decide) ?_
                  refine lv_iload_n hx hb dX8_deal_115 rfl (lv_at hl 2 rfl) ?_
                  refine lv_ishl hx hb dX8_deal_116 ?_
                  refine lv_iconst (v := 1) hx hb dX8_deal_117 (by decide) ?_
                  refine lv_iload hx hb dX8_deal_118 (lv_at hl 3 rfl) ?_
                  refine lv_ishl hx hb dX8_deal_120 ?_
                  refine lv_ior hx hb dX8_deal_121 ?_
                  refine lv_topi (fun z16 ez16 => ?_)
                  have h := nm_at ez16 h
                  refine lv_istore (lv' := [(7, .int z16), (6, .int u9), (5, .int u8), (3, .int y3), (4, .int y4), (0, .ref aM), (1, .int x1)]) hx hb dX8_deal_122 hl (by decide) rfl (fun ls hl => ?_)
                  refine lv_aload_n hx hb dX8_deal_124 rfl (lv_at hl 5 rfl) ?_
                  refine lv_iconst (v := 1) hx hb dX8_deal_125 (by decide) ?_
                  obtain ⟨u17, hu17, h⟩ := bd_some h
                  refine cl_Vi (rest := []) F hK hP hD hS hA hl (t_X8_getting l D cyI cyJ cyZ cyB cyO aM aM_d aM_gets aM_gotNow aM_e aM_f aM_kept aM_found aM_tape aM_came aM_got aM_held aM_off aM_comesUp aM_comesDown aM_path aM_bitsOf aM_sizeOf aM_number aM_passing vM_isKept vM_taped u13.1 u13.2.1 u13.2.2.1 vM_up vM_down vM_sharesUp vM_sharesDown vM_onUp vM_onDown vM_great u13.2.2.2.1 u13.2.2.2.2.1 u13.2.2.2.2.2.1 vM_fitting vM_firstSet vM_inAll vM_inAny vM_at vM_sort vM_from vM_value vM_fault u15 u13.2.2.2.2.2.2.2.2.2.2.2.2 cM_gotNow (1 : Int32) u17 hu17) (cwV 1 hts gX8_deal_X8_getting rfl rfl rfl (by decide +kernel) ⟨Nat.le_of_ble_eq_true rfl, Nat.le_of_ble_eq_true rfl⟩) 0 [0, 1, 7, 8] [1, 2, 0, 0, 0, 0, 0, 3, 4, 0] [] (w_X8_deal cyI cyJ cyZ cyB cyO aM aM_d aM_f aM_came aM_got aM_held aM_off aM_gets aM_gotNow aM_found aM_e aM_kept aM_tape aM_comesUp aM_comesDown aM_path aM_bitsOf aM_sizeOf aM_number aM_passing vM_isKept vM_taped u13.1 u13.2.1 u13.2.2.1 vM_up vM_down vM_sharesUp vM_sharesDown vM_onUp vM_onDown vM_great u13.2.2.2.1 u13.2.2.2.2.1 u13.2.2.2.2.2.1 vM_fitting vM_firstSet vM_inAll vM_inAny vM_at vM_sort vM_from vM_value vM_fault u15 u13.2.2.2.2.2.2.2.1 u13.2.2.2.2.2.2.2.2.1 u13.2.2.2.2.2.2.2.2.2.1 u13.2.2.2.2.2.2.2.2.2.2.1 u13.2.2.2.2.2.2.2.2.2.2.2.1 u13.2.2.2.2.2.2.2.2.2.2.2.2 cM_gotNow cM_found) rfl rfl rfl rfl rfl (by decide +kernel) rfl rfl (Nat.le_of_ble_eq_true rfl) ⟨Nat.zero_le _, Nat.zero_le _⟩ dX8_deal_126 (fun H locs hP hD hS => ?_)
                  refine lv_iload hx hb dX8_deal_129 (lv_at hl 0 rfl) ?_
                  refine lv_iand hx hb dX8_deal_131 ?_
                  refine lv_iload hx hb dX8_deal_132 (lv_at hl 0 rfl) ?_
                  refine lv_icmp_ne (tgt := 145) hx hb dX8_deal_134 (by decide) (fun c18 => ?_) (fun c18 => ?_)
                  · have h := br_neg c18 h
                    refine lv_iinc (v := y4 + 1) (lv' := [(4, .int (y4 + 1)), (7, .int z16), (6, .int u9), (5, .int u8), (3, .int y3), (0, .ref aM), (1, .int x1)]) hx hb dX8_deal_145 hl (k := 4) rfl rfl (by decide) rfl (fun ls hl => ?_)
                    refine lv_goto (tgt := 38) hx hb dX8_deal_148 (by decide) ?_
                    exact ih38 y3 (y4 + 1) u13.1 u13.2.1 u13.2.2.1 u13.2.2.2.1 u13.2.2.2.2.1 u13.2.2.2.2.2.1 u15 u13.2.2.2.2.2.2.2.1 u13.2.2.2.2.2.2.2.2.1 u13.2.2.2.2.2.2.2.2.2.1 u13.2.2.2.2.2.2.2.2.2.2.1 u13.2.2.2.2.2.2.2.2.2.2.2.1 u13.2.2.2.2.2.2.2.2.2.2.2.2 cM_gotNow cM_found _ _ _ hP hD hS (lv_sub hl [4, 0, 5, 6] rfl) h
                  · have h := br_pos c18 h
                    refine lv_bipush (v := 10) hx hb dX8_deal_137 (by decide) ?_
                    refine lv_iload_n hx hb dX8_deal_139 rfl (lv_at hl 3 rfl) ?_
                    refine lv_imul hx hb dX8_deal_140 ?_
                    refine lv_iload hx hb dX8_deal_141 (lv_at hl 4 rfl) ?_
                    refine lv_iadd hx hb dX8_deal_143 ?_
                    obtain rfl := Option.some.inj h
                    exact hret _ _ _ _ _ hP hD hS dX8_deal_144 rfl rfl
                · have h := br_neg c10 h
                  refine lv_goto (tgt := 145) hx hb dX8_deal_72 (by decide) ?_
                  refine lv_iinc (v := y4 + 1) (lv' := [(4, .int (y4 + 1)), (6, .int u9), (5, .int u8), (3, .int y3), (0, .ref aM), (1, .int x1)]) hx hb dX8_deal_145 hl (k := 3) rfl rfl (by decide) rfl (fun ls hl => ?_)
                  refine lv_goto (tgt := 38) hx hb dX8_deal_148 (by decide) ?_
                  exact ih38 y3 (y4 + 1) vM_leaked vM_keptAll vM_offAll vM_triedOff vM_triedLeaked vM_triedKept cM_d cM_f cM_came cM_got cM_held cM_off cM_gets cM_gotNow cM_found _ _ _ hP hD hS (lv_sub hl [3, 0, 4, 5] rfl) h
          exact lp38 FU y3 z6 vM_leaked vM_keptAll vM_offAll vM_triedOff vM_triedLeaked vM_triedKept cM_d cM_f cM_came cM_got cM_held cM_off cM_gets cM_gotNow cM_found _ _ _ hP hD hS (lv_sub hl [1, 0, 2, 3] rfl) h
    exact lp23 FU (1 : Int32) u3.1 u3.2.1 u3.2.2.1 u3.2.2.2.1 u3.2.2.2.2.1 u3.2.2.2.2.2.1 u3.2.2.2.2.2.2.1 u3.2.2.2.2.2.2.2.1 u3.2.2.2.2.2.2.2.2.1 u3.2.2.2.2.2.2.2.2.2.1 u3.2.2.2.2.2.2.2.2.2.2.1 u3.2.2.2.2.2.2.2.2.2.2.2.1 u3.2.2.2.2.2.2.2.2.2.2.2.2.1 u3.2.2.2.2.2.2.2.2.2.2.2.2.2 cM_found _ _ _ hP hD hS (lv_sub hl [0, 2, 3] rfl) h
  · have h := br_neg c2 h
    refine lv_aload_n hx hb dX8_deal_10 rfl (lv_at hl 1 rfl) ?_
    refine lv_iload_n hx hb dX8_deal_11 rfl (lv_at hl 0 rfl) ?_
    obtain ⟨u19, hu19, h⟩ := bd_some h
    refine cl_Vi (rest := []) F hK hP hD hS hA hl (t_X8_finds l D cyI cyJ cyZ cyB cyO aM aM_found aM_d aM_e aM_f aM_kept aM_tape aM_came aM_got aM_held aM_off aM_comesUp aM_comesDown aM_path aM_gets aM_gotNow aM_bitsOf aM_sizeOf aM_number aM_passing vM_isKept vM_taped vM_leaked vM_keptAll vM_offAll vM_up vM_down vM_sharesUp vM_sharesDown vM_onUp vM_onDown vM_great vM_triedOff vM_triedLeaked vM_triedKept vM_fitting vM_firstSet vM_inAll vM_inAny vM_at vM_sort vM_from vM_value vM_fault cM_found u1 u19 hu19) (cwV 1 hts gX8_deal_X8_finds rfl rfl rfl (by decide +kernel) ⟨Nat.le_of_ble_eq_true rfl, Nat.le_of_ble_eq_true rfl⟩) 0 [0, 9] [1, 0, 0, 0, 0, 0, 0, 0, 0, 2] [] (w_X8_deal cyI cyJ cyZ cyB cyO aM aM_d aM_f aM_came aM_got aM_held aM_off aM_gets aM_gotNow aM_found aM_e aM_kept aM_tape aM_comesUp aM_comesDown aM_path aM_bitsOf aM_sizeOf aM_number aM_passing vM_isKept vM_taped vM_leaked vM_keptAll vM_offAll vM_up vM_down vM_sharesUp vM_sharesDown vM_onUp vM_onDown vM_great vM_triedOff vM_triedLeaked vM_triedKept vM_fitting vM_firstSet vM_inAll vM_inAny vM_at vM_sort vM_from vM_value vM_fault cM_d cM_f cM_came cM_got cM_held cM_off cM_gets cM_gotNow u19.2) rfl rfl rfl rfl rfl (by decide +kernel) rfl rfl (Nat.le_of_ble_eq_true rfl) ⟨Nat.zero_le _, Nat.zero_le _⟩ dX8_deal_12 (fun H locs hP hD hS => ?_)
    obtain rfl := Option.some.inj h
    exact hret _ _ _ _ _ hP hD hS dX8_deal_15 rfl rfl
/-! ===== X8_law ===== -/
def w_X8_law (cyI cyJ cyZ cyB cyO : ClassId) (aM aM_d aM_e aM_found aM_f aM_came aM_got aM_held aM_off aM_gets aM_kept aM_tape aM_comesUp aM_comesDown aM_path aM_gotNow aM_bitsOf aM_sizeOf aM_number aM_passing : Nat) (vM_isKept : Int32) (vM_taped : Int32) (vM_leaked : Int32) (vM_keptAll : Int32) (vM_offAll : Int32) (vM_up : Int64) (vM_down : Int64) (vM_sharesUp : Int64) (vM_sharesDown : Int64) (vM_onUp : Int64) (vM_onDown : Int64) (vM_great : Int32) (vM_triedOff : Int32) (vM_triedLeaked : Int32) (vM_triedKept : Int32) (vM_fitting : Int32) (vM_firstSet : Int32) (vM_inAll : Int32) (vM_inAny : Int32) (vM_at : Int32) (vM_sort : Int32) (vM_from : Int32) (vM_value : Int64) (vM_fault : Int32) (cM_d : Nat → Int32) (cM_e : Nat → Int32) (cM_found : Nat → Int32) (cM_f : Nat → Int32) (cM_came : Nat → Int32) (cM_got : Nat → Int32) (cM_held : Nat → Int32) (cM_off : Nat → Int32) (cM_gets : Nat → Int32) : va_W := [(aM, .inr (7, [.ref aM_d, .ref aM_e, .ref aM_f, .ref aM_kept, .int vM_isKept, .ref aM_found, .ref aM_tape, .int vM_taped, .ref aM_came, .ref aM_got, .ref aM_held, .ref aM_off, .int vM_leaked, .int vM_keptAll, .int vM_offAll, .ref aM_comesUp, .ref aM_comesDown, .long vM_up, .long vM_down, .long vM_sharesUp, .long vM_sharesDown, .long vM_onUp, .long vM_onDown, .int vM_great, .ref aM_path, .ref aM_gets, .int vM_triedOff, .int vM_triedLeaked, .int vM_triedKept, .ref aM_gotNow, .int vM_fitting, .int vM_firstSet, .int vM_inAll, .int vM_inAny, .int vM_at, .int vM_sort, .int vM_from, .long vM_value, .int vM_fault, .ref aM_bitsOf, .ref aM_sizeOf, .ref aM_number, .ref aM_passing])), (aM_d, .inl (cyI, 64, .inl cM_d)), (aM_e, .inl (cyI, 64, .inl cM_e)), (aM_found, .inl (cyI, 7, .inl cM_found)), (aM_f, .inl (cyI, 64, .inl cM_f)), (aM_came, .inl (cyI, 10, .inl cM_came)), (aM_got, .inl (cyI, 10, .inl cM_got)), (aM_held, .inl (cyI, 10, .inl cM_held)), (aM_off, .inl (cyI, 10, .inl cM_off)), (aM_gets, .inl (cyI, 10, .inl cM_gets))]
set_option maxHeartbeats 4000000 in
set_option maxRecDepth 100000 in
theorem t_X8_law (l : Launch) (D : va_G) (cyI cyJ cyZ cyB cyO : ClassId) (aM aM_d aM_e aM_found aM_f aM_came aM_got aM_held aM_off aM_gets aM_kept aM_tape aM_comesUp aM_comesDown aM_path aM_gotNow aM_bitsOf aM_sizeOf aM_number aM_passing : Nat) (vM_isKept : Int32) (vM_taped : Int32) (vM_leaked : Int32) (vM_keptAll : Int32) (vM_offAll : Int32) (vM_up : Int64) (vM_down : Int64) (vM_sharesUp : Int64) (vM_sharesDown : Int64) (vM_onUp : Int64) (vM_onDown : Int64) (vM_great : Int32) (vM_triedOff : Int32) (vM_triedLeaked : Int32) (vM_triedKept : Int32) (vM_fitting : Int32) (vM_firstSet : Int32) (vM_inAll : Int32) (vM_inAny : Int32) (vM_at : Int32) (vM_sort : Int32) (vM_from : Int32) (vM_value : Int64) (vM_fault : Int32) (cM_d : Nat → Int32) (cM_e : Nat → Int32) (cM_found : Nat → Int32) (cM_f : Nat → Int32) (cM_came : Nat → Int32) (cM_got : Nat → Int32) (cM_held : Nat → Int32) (cM_off : Nat → Int32) (cM_gets : Nat → Int32) (x1 : Int32) (out : Int32 × Int32 × Int32 × Int32 × Int32 × Int32 × Int32 × (Nat → Int32) × (Nat → Int32) × (Nat → Int32) × (Nat → Int32) × (Nat → Int32) × (Nat → Int32) × (Nat → Int32) × (Nat → Int32) × (Nat → Int32)) (h : f_X8_law x1 vM_leaked vM_keptAll vM_offAll vM_triedOff vM_triedLeaked vM_triedKept cM_d cM_e cM_found cM_f cM_came cM_got cM_held cM_off cM_gets = some out) : Mi l yX8_law wsX8_law ({ frames := 5, cells := 0, slots := 0, locals := 118 } : Room) D (tyA cyI cyJ cyZ cyB cyO) [.ref aM, .int x1] (w_X8_law cyI cyJ cyZ cyB cyO aM aM_d aM_e aM_found aM_f aM_came aM_got aM_held aM_off aM_gets aM_kept aM_tape aM_comesUp aM_comesDown aM_path aM_gotNow aM_bitsOf aM_sizeOf aM_number aM_passing vM_isKept vM_taped vM_leaked vM_keptAll vM_offAll vM_up vM_down vM_sharesUp vM_sharesDown vM_onUp vM_onDown vM_great vM_triedOff vM_triedLeaked vM_triedKept vM_fitting vM_firstSet vM_inAll vM_inAny vM_at vM_sort vM_from vM_value vM_fault cM_d cM_e cM_found cM_f cM_came cM_got cM_held cM_off cM_gets) (w_X8_law cyI cyJ cyZ cyB cyO aM aM_d aM_e aM_found aM_f aM_came aM_got aM_held aM_off aM_gets aM_kept aM_tape aM_comesUp aM_comesDown aM_path aM_gotNow aM_bitsOf aM_sizeOf aM_number aM_passing vM_isKept vM_taped out.2.1 out.2.2.1 out.2.2.2.1 vM_up vM_down vM_sharesUp vM_sharesDown vM_onUp vM_onDown vM_great out.2.2.2.2.1 out.2.2.2.2.2.1 out.2.2.2.2.2.2.1 vM_fitting vM_firstSet vM_inAll vM_inAny vM_at vM_sort vM_from vM_value vM_fault out.2.2.2.2.2.2.2.1 out.2.2.2.2.2.2.2.2.1 out.2.2.2.2.2.2.2.2.2.1 out.2.2.2.2.2.2.2.2.2.2.1 out.2.2.2.2.2.2.2.2.2.2.2.1 out.2.2.2.2.2.2.2.2.2.2.2.2.1 out.2.2.2.2.2.2.2.2.2.2.2.2.2.1 out.2.2.2.2.2.2.2.2.2.2.2.2.2.2.1 out.2.2.2.2.2.2.2.2.2.2.2.2.2.2.2) out.1 := by
  refine Mi.mk (cc := cX8_law) (maxL := 7) (rt := .int) (own := RX8) (by decide) rfl rfl (Nat.le_of_ble_eq_true rfl) ?_
  intro p e s m args below meth c A Q F hK hP hD hA hret ls hl
  obtain ⟨hx, hb, hml, hown, hts⟩ := id F
  have hS : va_S A s.heap s.heap [] := va_S.rf
  have hl : lv_has ls 7 [(0, .ref aM), (1, .int x1)] := hl
  have in_X8 : ∀ w ∈ wsX80, w ∈ wsX8_law := by decide +kernel
  have q4 := hts (Cond.methodLink RX8 243 yX8_whyHours) (List.mem_of_getElem? (i := 4) rfl)
  have q1 := hts (Cond.fieldLink RX8 7 "ThirdFountainModel" "d" "[I") (List.mem_of_getElem? (i := 1) rfl)
  have q2 := hts (Cond.fieldLink RX8 13 "ThirdFountainModel" "e" "[I") (List.mem_of_getElem? (i := 2) rfl)
  have q23 := hts (Cond.methodLink RX8 189 yX8_copies) (List.mem_of_getElem? (i := 23) rfl)
  have q30 := hts (Cond.methodLink RX8 224 yX8_tries) (List.mem_of_getElem? (i := 30) rfl)
  have q3 := hts (Cond.fieldLink RX8 221 "ThirdFountainModel" "triedKept" "I") (List.mem_of_getElem? (i := 3) rfl)
  have q26 := hts (Cond.methodLink RX8 105 yX8_sets) (List.mem_of_getElem? (i := 26) rfl)
  have q17 := hts (Cond.methodLink RX8 115 yX8_finds) (List.mem_of_getElem? (i := 17) rfl)
  unfold f_X8_law at h
  refine lv_aload_n hx hb dX8_law_0 rfl (lv_at hl 0 rfl) ?_
  refine lv_iload_n hx hb dX8_law_1 rfl (lv_at hl 1 rfl) ?_
  obtain ⟨u1, hu1, h⟩ := bd_some h
  refine cl_Vi (rest := []) F hK hP hD hS hA hl (t_X8_whyHours l D cyI cyJ cyZ cyB cyO aM aM_d aM_e aM_f aM_kept aM_found aM_tape aM_came aM_got aM_held aM_off aM_comesUp aM_comesDown aM_path aM_gets aM_gotNow aM_bitsOf aM_sizeOf aM_number aM_passing vM_isKept vM_taped vM_leaked vM_keptAll vM_offAll vM_up vM_down vM_sharesUp vM_sharesDown vM_onUp vM_onDown vM_great vM_triedOff vM_triedLeaked vM_triedKept vM_fitting vM_firstSet vM_inAll vM_inAny vM_at vM_sort vM_from vM_value vM_fault cM_d x1 u1 hu1) (cwV 1 hts gX8_law_X8_whyHours rfl rfl rfl (by decide +kernel) ⟨Nat.le_of_ble_eq_true rfl, Nat.le_of_ble_eq_true rfl⟩) 0 [0, 1] [1, 2, 0, 0, 0, 0, 0, 0, 0, 0] [] (w_X8_law cyI cyJ cyZ cyB cyO aM aM_d aM_e aM_found aM_f aM_came aM_got aM_held aM_off aM_gets aM_kept aM_tape aM_comesUp aM_comesDown aM_path aM_gotNow aM_bitsOf aM_sizeOf aM_number aM_passing vM_isKept vM_taped vM_leaked vM_keptAll vM_offAll vM_up vM_down vM_sharesUp vM_sharesDown vM_onUp vM_onDown vM_great vM_triedOff vM_triedLeaked vM_triedKept vM_fitting vM_firstSet vM_inAll vM_inAny vM_at vM_sort vM_from vM_value vM_fault cM_d cM_e cM_found cM_f cM_came cM_got cM_held cM_off cM_gets) rfl rfl rfl rfl rfl (by decide +kernel) rfl rfl (Nat.le_of_ble_eq_true rfl) ⟨Nat.zero_le _, Nat.zero_le _⟩ dX8_law_2 (fun H locs hP hD hS => ?_)
  refine lv_istore_n (lv' := [(2, .int u1), (0, .ref aM), (1, .int x1)]) hx hb dX8_law_5 rfl hl (by decide) rfl (fun ls hl => ?_)
  refine lv_iload_n hx hb dX8_law_6 rfl (lv_at hl 0 rfl) ?_
  refine lv_if_lt (tgt := 16) hx hb dX8_law_7 (by decide) (fun c2 => ?_) (fun c2 => ?_)
  · have h := br_pos c2 h
    refine lv_aload_n hx hb dX8_law_16 rfl (lv_at hl 1 rfl) ?_
    refine va_get (D := D) (ci := 7) (v := .ref aM_d) (C := RX8) (T := TX8) (N := 43) hx hb hts in_X8 hown hK hP 0 rfl rfl 0 (by decide) q1 (fun _ h9 => h9) rfl dX8_law_17 ?_
    refine lv_aload_n hx hb dX8_law_20 rfl (lv_at hl 1 rfl) ?_
    refine va_get (D := D) (ci := 7) (v := .ref aM_e) (C := RX8) (T := TX8) (N := 43) hx hb hts in_X8 hown hK hP 0 rfl rfl 1 (by decide) q2 (fun _ h9 => h9) rfl dX8_law_21 ?_
    obtain ⟨u3, hu3, h⟩ := bd_some h
    refine cl_Sv (rest := []) F hK hP hD hS hA hl (t_X8_copies l D cyI cyJ cyZ cyB cyO aM_d aM_e cM_d cM_e u3 hu3) (va_cwS 2 hts gX8_law_X8_copies rfl rfl rfl (by decide +kernel) ⟨Nat.le_of_ble_eq_true rfl, Nat.le_of_ble_eq_true rfl⟩) [1, 2] [0, 1, 2, 0, 0, 0, 0, 0, 0, 0] [] (w_X8_law cyI cyJ cyZ cyB cyO aM aM_d aM_e aM_found aM_f aM_came aM_got aM_held aM_off aM_gets aM_kept aM_tape aM_comesUp aM_comesDown aM_path aM_gotNow aM_bitsOf aM_sizeOf aM_number aM_passing vM_isKept vM_taped vM_leaked vM_keptAll vM_offAll vM_up vM_down vM_sharesUp vM_sharesDown vM_onUp vM_onDown vM_great vM_triedOff vM_triedLeaked vM_triedKept vM_fitting vM_firstSet vM_inAll vM_inAny vM_at vM_sort vM_from vM_value vM_fault cM_d u3 cM_found cM_f cM_came cM_got cM_held cM_off cM_gets) rfl rfl rfl (by decide +kernel) rfl rfl (Nat.le_of_ble_eq_true rfl) ⟨Nat.zero_le _, Nat.zero_le _⟩ dX8_law_24 (fun H locs hP hD hS => ?_)
    refine lv_iconst (v := 0) hx hb dX8_law_27 (by decide) ?_
    refine lv_istore_n (lv' := [(3, .int (0 : Int32)), (2, .int u1), (0, .ref aM), (1, .int x1)]) hx hb dX8_law_28 rfl hl (by decide) rfl (fun ls hl => ?_)
    refine lv_iconst (v := -1) hx hb dX8_law_29 (by decide) ?_
    refine lv_istore (lv' := [(4, .int (-1 : Int32)), (3, .int (0 : Int32)), (2, .int u1), (0, .ref aM), (1, .int x1)]) hx hb dX8_law_30 hl (by decide) rfl (fun ls hl => ?_)
    refine lv_iconst (v := 0) hx hb dX8_law_32 (by decide) ?_
    refine lv_istore (lv' := [(5, .int (0 : Int32)), (4, .int (-1 : Int32)), (3, .int (0 : Int32)), (2, .int u1), (0, .ref aM), (1, .int x1)]) hx hb dX8_law_33 hl (by decide) rfl (fun ls hl => ?_)
    have lp35 : ∀ (k35 : Nat) (y3 : Int32) (y4 : Int32) (y5 : Int32) (vM_leaked : Int32) (vM_keptAll : Int32) (vM_offAll : Int32) (vM_triedOff : Int32) (vM_triedLeaked : Int32) (vM_triedKept : Int32) (cM_d : Nat → Int32) (cM_e : Nat → Int32) (cM_found : Nat → Int32) (cM_f : Nat → Int32) (cM_came : Nat → Int32) (cM_got : Nat → Int32) (cM_held : Nat → Int32) (cM_off : Nat → Int32) (cM_gets : Nat → Int32) (H : Heap) (locs : List Loc) (ls : Array Slot), va_P D vwCl (w_X8_law cyI cyJ cyZ cyB cyO aM aM_d aM_e aM_found aM_f aM_came aM_got aM_held aM_off aM_gets aM_kept aM_tape aM_comesUp aM_comesDown aM_path aM_gotNow aM_bitsOf aM_sizeOf aM_number aM_passing vM_isKept vM_taped vM_leaked vM_keptAll vM_offAll vM_up vM_down vM_sharesUp vM_sharesDown vM_onUp vM_onDown vM_great vM_triedOff vM_triedLeaked vM_triedKept vM_fitting vM_firstSet vM_inAll vM_inAny vM_at vM_sort vM_from vM_value vM_fault cM_d cM_e cM_found cM_f cM_came cM_got cM_held cM_off cM_gets) H → va_D A (w_X8_law cyI cyJ cyZ cyB cyO aM aM_d aM_e aM_found aM_f aM_came aM_got aM_held aM_off aM_gets aM_kept aM_tape aM_comesUp aM_comesDown aM_path aM_gotNow aM_bitsOf aM_sizeOf aM_number aM_passing vM_isKept vM_taped vM_leaked vM_keptAll vM_offAll vM_up vM_down vM_sharesUp vM_sharesDown vM_onUp vM_onDown vM_great vM_triedOff vM_triedLeaked vM_triedKept vM_fitting vM_firstSet vM_inAll vM_inAny vM_at vM_sort vM_from vM_value vM_fault cM_d cM_e cM_found cM_f cM_came cM_got cM_held cM_off cM_gets) → va_S A s.heap H locs → lv_has ls 7 [(3, .int y3), (4, .int y4), (5, .int y5), (0, .ref aM), (1, .int x1)] → (f_X8_law_L35 x1 k35) (y3, y4, y5, vM_leaked, vM_keptAll, vM_offAll, vM_triedOff, vM_triedLeaked, vM_triedKept, cM_d, cM_e, cM_found, cM_f, cM_came, cM_got, cM_held, cM_off, cM_gets) = some out → W p l e ({ frames := 5, cells := 0, slots := 0, locals := 118 } : Room) s m args below meth c H locs 0 0 Q (F0 m 35 ls []) := by
      intro k35
      induction k35 with
      | zero => intro y3 y4 y5 vM_leaked vM_keptAll vM_offAll vM_triedOff vM_triedLeaked vM_triedKept cM_d cM_e cM_found cM_f cM_came cM_got cM_held cM_off cM_gets H locs ls hP hD hS hl h; cases h
      | succ k35 ih35 =>
        intro y3 y4 y5 vM_leaked vM_keptAll vM_offAll vM_triedOff vM_triedLeaked vM_triedKept cM_d cM_e cM_found cM_f cM_came cM_got cM_held cM_off cM_gets H locs ls hP hD hS hl h
        have h : f_X8_law_L35_b x1 (f_X8_law_L35 x1 k35) y3 y4 y5 vM_leaked vM_keptAll vM_offAll vM_triedOff vM_triedLeaked vM_triedKept cM_d cM_e cM_found cM_f cM_came cM_got cM_held cM_off cM_gets = some out := h
        unfold f_X8_law_L35_b at h
        refine lv_iload hx hb dX8_law_35 (lv_at hl 2 rfl) ?_
        refine lv_bipush (v := 7) hx hb dX8_law_37 (by decide) ?_
        have j118 : ∀ (y3 : Int32) (vM_leaked : Int32) (vM_keptAll : Int32) (vM_offAll : Int32) (vM_triedOff : Int32) (vM_triedLeaked : Int32) (vM_triedKept : Int32) (cM_d : Nat → Int32) (cM_e : Nat → Int32) (cM_found : Nat → Int32) (cM_f : Nat → Int32) (cM_came : Nat → Int32) (cM_got : Nat → Int32) (cM_held : Nat → Int32) (cM_off : Nat → Int32) (cM_gets : Nat → Int32) (H : Heap) (locs : List Loc) (ls : Array Slot), va_P D vwCl (w_X8_law cyI cyJ cyZ cyB cyO aM aM_d aM_e aM_found aM_f aM_came aM_got aM_held aM_off aM_gets aM_kept aM_tape aM_comesUp aM_comesDown aM_path aM_gotNow aM_bitsOf aM_sizeOf aM_number aM_passing vM_isKept vM_taped vM_leaked vM_keptAll vM_offAll vM_up vM_down vM_sharesUp vM_sharesDown vM_onUp vM_onDown vM_great vM_triedOff vM_triedLeaked vM_triedKept vM_fitting vM_firstSet vM_inAll vM_inAny vM_at vM_sort vM_from vM_value vM_fault cM_d cM_e cM_found cM_f cM_came cM_got cM_held cM_off cM_gets) H → va_D A (w_X8_law cyI cyJ cyZ cyB cyO aM aM_d aM_e aM_found aM_f aM_came aM_got aM_held aM_off aM_gets aM_kept aM_tape aM_comesUp aM_comesDown aM_path aM_gotNow aM_bitsOf aM_sizeOf aM_number aM_passing vM_isKept vM_taped vM_leaked vM_keptAll vM_offAll vM_up vM_down vM_sharesUp vM_sharesDown vM_onUp vM_onDown vM_great vM_triedOff vM_triedLeaked vM_triedKept vM_fitting vM_firstSet vM_inAll vM_inAny vM_at vM_sort vM_from vM_value vM_fault cM_d cM_e cM_found cM_f cM_came cM_got cM_held cM_off cM_gets) → va_S A s.heap H locs → lv_has ls 7 [(3, .int y3), (0, .ref aM)] → f_X8_law_J118 x1 y3 vM_leaked vM_keptAll vM_offAll vM_triedOff vM_triedLeaked vM_triedKept cM_d cM_e cM_found cM_f cM_came cM_got cM_held cM_off cM_gets = some out → W p l e ({ frames := 5, cells := 0, slots := 0, locals := 118 } : Room) s m args below meth c H locs 0 0 Q (F0 m 118 ls []) := by
          intro y3 vM_leaked vM_keptAll vM_offAll vM_triedOff vM_triedLeaked vM_triedKept cM_d cM_e cM_found cM_f cM_came cM_got cM_held cM_off cM_gets H locs ls hP hD hS hl h
          unfold f_X8_law_J118 at h
          refine lv_aload_n hx hb dX8_law_118 rfl (lv_at hl 1 rfl) ?_
          refine va_get (D := D) (ci := 7) (v := .ref aM_e) (C := RX8) (T := TX8) (N := 43) hx hb hts in_X8 hown hK hP 0 rfl rfl 1 (by decide) q2 (fun _ h9 => h9) rfl dX8_law_119 ?_
          refine lv_aload_n hx hb dX8_law_122 rfl (lv_at hl 1 rfl) ?_
          refine va_get (D := D) (ci := 7) (v := .ref aM_d) (C := RX8) (T := TX8) (N := 43) hx hb hts in_X8 hown hK hP 0 rfl rfl 0 (by decide) q1 (fun _ h9 => h9) rfl dX8_law_123 ?_
          obtain ⟨u4, hu4, h⟩ := bd_some h
          refine cl_Sv (rest := []) F hK hP hD hS hA hl (t_X8_copies l D cyI cyJ cyZ cyB cyO aM_e aM_d cM_e cM_d u4 hu4) (va_cwS 2 hts gX8_law_X8_copies rfl rfl rfl (by decide +kernel) ⟨Nat.le_of_ble_eq_true rfl, Nat.le_of_ble_eq_true rfl⟩) [2, 1] [0, 2, 1, 0, 0, 0, 0, 0, 0, 0] [] (w_X8_law cyI cyJ cyZ cyB cyO aM aM_d aM_e aM_found aM_f aM_came aM_got aM_held aM_off aM_gets aM_kept aM_tape aM_comesUp aM_comesDown aM_path aM_gotNow aM_bitsOf aM_sizeOf aM_number aM_passing vM_isKept vM_taped vM_leaked vM_keptAll vM_offAll vM_up vM_down vM_sharesUp vM_sharesDown vM_onUp vM_onDown vM_great vM_triedOff vM_triedLeaked vM_triedKept vM_fitting vM_firstSet vM_inAll vM_inAny vM_at vM_sort vM_from vM_value vM_fault u4 cM_e cM_found cM_f cM_came cM_got cM_held cM_off cM_gets) rfl rfl rfl (by decide +kernel) rfl rfl (Nat.le_of_ble_eq_true rfl) ⟨Nat.zero_le _, Nat.zero_le _⟩ dX8_law_126 (fun H locs hP hD hS => ?_)
          refine lv_iload_n hx hb dX8_law_129 rfl (lv_at hl 0 rfl) ?_
          obtain rfl := Option.some.inj h
          exact hret _ _ _ _ _ hP hD hS dX8_law_130 rfl rfl
        refine lv_icmp_ge (tgt := 118) hx hb dX8_law_39 (by decide) (fun c5 => ?_) (fun c5 => ?_)
        · have h := br_pos c5 h
          exact j118 y3 vM_leaked vM_keptAll vM_offAll vM_triedOff vM_triedLeaked vM_triedKept cM_d cM_e cM_found cM_f cM_came cM_got cM_held cM_off cM_gets _ _ _ hP hD hS (lv_sub hl [0, 3] rfl) h
        · have h := br_neg c5 h
          refine lv_iconst (v := 0) hx hb dX8_law_42 (by decide) ?_
          refine lv_istore (lv' := [(6, .int (0 : Int32)), (3, .int y3), (4, .int y4), (5, .int y5), (0, .ref aM), (1, .int x1)]) hx hb dX8_law_43 hl (by decide) rfl (fun ls hl => ?_)
          have lp45 : ∀ (k45 : Nat) (y3 : Int32) (y4 : Int32) (y5 : Int32) (y6 : Int32) (vM_leaked : Int32) (vM_keptAll : Int32) (vM_offAll : Int32) (vM_triedOff : Int32) (vM_triedLeaked : Int32) (vM_triedKept : Int32) (cM_d : Nat → Int32) (cM_e : Nat → Int32) (cM_found : Nat → Int32) (cM_f : Nat → Int32) (cM_came : Nat → Int32) (cM_got : Nat → Int32) (cM_held : Nat → Int32) (cM_off : Nat → Int32) (cM_gets : Nat → Int32) (H : Heap) (locs : List Loc) (ls : Array Slot), va_P D vwCl (w_X8_law cyI cyJ cyZ cyB cyO aM aM_d aM_e aM_found aM_f aM_came aM_got aM_held aM_off aM_gets aM_kept aM_tape aM_comesUp aM_comesDown aM_path aM_gotNow aM_bitsOf aM_sizeOf aM_number aM_passing vM_isKept vM_taped vM_leaked vM_keptAll vM_offAll vM_up vM_down vM_sharesUp vM_sharesDown vM_onUp vM_onDown vM_great vM_triedOff vM_triedLeaked vM_triedKept vM_fitting vM_firstSet vM_inAll vM_inAny vM_at vM_sort vM_from vM_value vM_fault cM_d cM_e cM_found cM_f cM_came cM_got cM_held cM_off cM_gets) H → va_D A (w_X8_law cyI cyJ cyZ cyB cyO aM aM_d aM_e aM_found aM_f aM_came aM_got aM_held aM_off aM_gets aM_kept aM_tape aM_comesUp aM_comesDown aM_path aM_gotNow aM_bitsOf aM_sizeOf aM_number aM_passing vM_isKept vM_taped vM_leaked vM_keptAll vM_offAll vM_up vM_down vM_sharesUp vM_sharesDown vM_onUp vM_onDown vM_great vM_triedOff vM_triedLeaked vM_triedKept vM_fitting vM_firstSet vM_inAll vM_inAny vM_at vM_sort vM_from vM_value vM_fault cM_d cM_e cM_found cM_f cM_came cM_got cM_held cM_off cM_gets) → va_S A s.heap H locs → lv_has ls 7 [(3, .int y3), (4, .int y4), (5, .int y5), (6, .int y6), (0, .ref aM), (1, .int x1)] → (f_X8_law_L45 x1 (f_X8_law_L35 x1 k35) k45) (y3, y4, y5, y6, vM_leaked, vM_keptAll, vM_offAll, vM_triedOff, vM_triedLeaked, vM_triedKept, cM_d, cM_e, cM_found, cM_f, cM_came, cM_got, cM_held, cM_off, cM_gets) = some out → W p l e ({ frames := 5, cells := 0, slots := 0, locals := 118 } : Room) s m args below meth c H locs 0 0 Q (F0 m 45 ls []) := by
            intro k45
            induction k45 with
            | zero => intro y3 y4 y5 y6 vM_leaked vM_keptAll vM_offAll vM_triedOff vM_triedLeaked vM_triedKept cM_d cM_e cM_found cM_f cM_came cM_got cM_held cM_off cM_gets H locs ls hP hD hS hl h; cases h
            | succ k45 ih45 =>
              intro y3 y4 y5 y6 vM_leaked vM_keptAll vM_offAll vM_triedOff vM_triedLeaked vM_triedKept cM_d cM_e cM_found cM_f cM_came cM_got cM_held cM_off cM_gets H locs ls hP hD hS hl h
              have h : f_X8_law_L45_b x1 (f_X8_law_L35 x1 k35) (f_X8_law_L45 x1 (f_X8_law_L35 x1 k35) k45) y3 y4 y5 y6 vM_leaked vM_keptAll vM_offAll vM_triedOff vM_triedLeaked vM_triedKept cM_d cM_e cM_found cM_f cM_came cM_got cM_held cM_off cM_gets = some out := h
              unfold f_X8_law_L45_b at h
              refine lv_iload hx hb dX8_law_45 (lv_at hl 3 rfl) ?_
              refine lv_aload_n hx hb dX8_law_47 rfl (lv_at hl 4 rfl) ?_
              refine va_get (D := D) (ci := 7) (v := .ref aM_d) (C := RX8) (T := TX8) (N := 43) hx hb hts in_X8 hown hK hP 0 rfl rfl 0 (by decide) q1 (fun _ h9 => h9) rfl dX8_law_48 ?_
              refine lv_iconst (v := 0) hx hb dX8_law_51 (by decide) ?_
              refine va_iald hx hb hK hP 1 0 rfl rfl (by unfold vp_in; decide) dX8_law_52 ?_
              have j71 : ∀ (y3 : Int32) (y4 : Int32) (y5 : Int32) (vM_leaked : Int32) (vM_keptAll : Int32) (vM_offAll : Int32) (vM_triedOff : Int32) (vM_triedLeaked : Int32) (vM_triedKept : Int32) (cM_d : Nat → Int32) (cM_e : Nat → Int32) (cM_found : Nat → Int32) (cM_f : Nat → Int32) (cM_came : Nat → Int32) (cM_got : Nat → Int32) (cM_held : Nat → Int32) (cM_off : Nat → Int32) (cM_gets : Nat → Int32) (H : Heap) (locs : List Loc) (ls : Array Slot), va_P D vwCl (w_X8_law cyI cyJ cyZ cyB cyO aM aM_d aM_e aM_found aM_f aM_came aM_got aM_held aM_off aM_gets aM_kept aM_tape aM_comesUp aM_comesDown aM_path aM_gotNow aM_bitsOf aM_sizeOf aM_number aM_passing vM_isKept vM_taped vM_leaked vM_keptAll vM_offAll vM_up vM_down vM_sharesUp vM_sharesDown vM_onUp vM_onDown vM_great vM_triedOff vM_triedLeaked vM_triedKept vM_fitting vM_firstSet vM_inAll vM_inAny vM_at vM_sort vM_from vM_value vM_fault cM_d cM_e cM_found cM_f cM_came cM_got cM_held cM_off cM_gets) H → va_D A (w_X8_law cyI cyJ cyZ cyB cyO aM aM_d aM_e aM_found aM_f aM_came aM_got aM_held aM_off aM_gets aM_kept aM_tape aM_comesUp aM_comesDown aM_path aM_gotNow aM_bitsOf aM_sizeOf aM_number aM_passing vM_isKept vM_taped vM_leaked vM_keptAll vM_offAll vM_up vM_down vM_sharesUp vM_sharesDown vM_onUp vM_onDown vM_great vM_triedOff vM_triedLeaked vM_triedKept vM_fitting vM_firstSet vM_inAll vM_inAny vM_at vM_sort vM_from vM_value vM_fault cM_d cM_e cM_found cM_f cM_came cM_got cM_held cM_off cM_gets) → va_S A s.heap H locs → lv_has ls 7 [(3, .int y3), (4, .int y4), (5, .int y5), (0, .ref aM), (1, .int x1)] → f_X8_law_J71 x1 (f_X8_law_L35 x1 k35) y3 y4 y5 vM_leaked vM_keptAll vM_offAll vM_triedOff vM_triedLeaked vM_triedKept cM_d cM_e cM_found cM_f cM_came cM_got cM_held cM_off cM_gets = some out → W p l e ({ frames := 5, cells := 0, slots := 0, locals := 118 } : Room) s m args below meth c H locs 0 0 Q (F0 m 71 ls []) := by
                intro y3 y4 y5 vM_leaked vM_keptAll vM_offAll vM_triedOff vM_triedLeaked vM_triedKept cM_d cM_e cM_found cM_f cM_came cM_got cM_held cM_off cM_gets H locs ls hP hD hS hl h
                unfold f_X8_law_J71 at h
                refine lv_aload_n hx hb dX8_law_71 rfl (lv_at hl 3 rfl) ?_
                refine lv_iload_n hx hb dX8_law_72 rfl (lv_at hl 4 rfl) ?_
                obtain ⟨u6, hu6, h⟩ := bd_some h
                refine cl_Vv (rest := []) F hK hP hD hS hA hl (t_X8_tries l D cyI cyJ cyZ cyB cyO aM aM_d aM_f aM_came aM_got aM_held aM_off aM_gets aM_e aM_kept aM_found aM_tape aM_comesUp aM_comesDown aM_path aM_gotNow aM_bitsOf aM_sizeOf aM_number aM_passing vM_isKept vM_taped vM_leaked vM_keptAll vM_offAll vM_up vM_down vM_sharesUp vM_sharesDown vM_onUp vM_onDown vM_great vM_triedOff vM_triedLeaked vM_triedKept vM_fitting vM_firstSet vM_inAll vM_inAny vM_at vM_sort vM_from vM_value vM_fault cM_d cM_f cM_came cM_got cM_held cM_off cM_gets x1 u6 hu6) (cwV 1 hts gX8_law_X8_tries rfl rfl rfl (by decide +kernel) ⟨Nat.le_of_ble_eq_true rfl, Nat.le_of_ble_eq_true rfl⟩) 0 [0, 1, 4, 5, 6, 7, 8, 9] [1, 2, 0, 0, 3, 4, 5, 6, 7, 8] [] (w_X8_law cyI cyJ cyZ cyB cyO aM aM_d aM_e aM_found aM_f aM_came aM_got aM_held aM_off aM_gets aM_kept aM_tape aM_comesUp aM_comesDown aM_path aM_gotNow aM_bitsOf aM_sizeOf aM_number aM_passing vM_isKept vM_taped u6.1 u6.2.1 u6.2.2.1 vM_up vM_down vM_sharesUp vM_sharesDown vM_onUp vM_onDown vM_great u6.2.2.2.1 u6.2.2.2.2.1 u6.2.2.2.2.2.1 vM_fitting vM_firstSet vM_inAll vM_inAny vM_at vM_sort vM_from vM_value vM_fault u6.2.2.2.2.2.2.1 cM_e cM_found u6.2.2.2.2.2.2.2.1 u6.2.2.2.2.2.2.2.2.1 u6.2.2.2.2.2.2.2.2.2.1 u6.2.2.2.2.2.2.2.2.2.2.1 u6.2.2.2.2.2.2.2.2.2.2.2.1 u6.2.2.2.2.2.2.2.2.2.2.2.2) rfl rfl rfl rfl rfl (by decide +kernel) rfl rfl (Nat.le_of_ble_eq_true rfl) ⟨Nat.zero_le _, Nat.zero_le _⟩ dX8_law_73 (fun H locs hP hD hS => ?_)
                refine lv_aload_n hx hb dX8_law_76 rfl (lv_at hl 3 rfl) ?_
                refine va_get (D := D) (ci := 7) (v := .int u6.2.2.2.2.2.1) (C := RX8) (T := TX8) (N := 43) hx hb hts in_X8 hown hK hP 0 rfl rfl 28 (by decide) q3 (fun _ h9 => h9) rfl dX8_law_77 ?_
                refine lv_iload hx hb dX8_law_80 (lv_at hl 1 rfl) ?_
                have j91 : ∀ (y4 : Int32) (y5 : Int32) (t0 : Int32) (vM_leaked : Int32) (vM_keptAll : Int32) (vM_offAll : Int32) (vM_triedOff : Int32) (vM_triedLeaked : Int32) (vM_triedKept : Int32) (cM_d : Nat → Int32) (cM_e : Nat → Int32) (cM_found : Nat → Int32) (cM_f : Nat → Int32) (cM_came : Nat → Int32) (cM_got : Nat → Int32) (cM_held : Nat → Int32) (cM_off : Nat → Int32) (cM_gets : Nat → Int32) (H : Heap) (locs : List Loc) (ls : Array Slot), va_P D vwCl (w_X8_law cyI cyJ cyZ cyB cyO aM aM_d aM_e aM_found aM_f aM_came aM_got aM_held aM_off aM_gets aM_kept aM_tape aM_comesUp aM_comesDown aM_path aM_gotNow aM_bitsOf aM_sizeOf aM_number aM_passing vM_isKept vM_taped vM_leaked vM_keptAll vM_offAll vM_up vM_down vM_sharesUp vM_sharesDown vM_onUp vM_onDown vM_great vM_triedOff vM_triedLeaked vM_triedKept vM_fitting vM_firstSet vM_inAll vM_inAny vM_at vM_sort vM_from vM_value vM_fault cM_d cM_e cM_found cM_f cM_came cM_got cM_held cM_off cM_gets) H → va_D A (w_X8_law cyI cyJ cyZ cyB cyO aM aM_d aM_e aM_found aM_f aM_came aM_got aM_held aM_off aM_gets aM_kept aM_tape aM_comesUp aM_comesDown aM_path aM_gotNow aM_bitsOf aM_sizeOf aM_number aM_passing vM_isKept vM_taped vM_leaked vM_keptAll vM_offAll vM_up vM_down vM_sharesUp vM_sharesDown vM_onUp vM_onDown vM_great vM_triedOff vM_triedLeaked vM_triedKept vM_fitting vM_firstSet vM_inAll vM_inAny vM_at vM_sort vM_from vM_value vM_fault cM_d cM_e cM_found cM_f cM_came cM_got cM_held cM_off cM_gets) → va_S A s.heap H locs → lv_has ls 7 [(4, .int y4), (5, .int y5), (0, .ref aM), (1, .int x1)] → f_X8_law_J91 x1 (f_X8_law_L35 x1 k35) y4 y5 t0 vM_leaked vM_keptAll vM_offAll vM_triedOff vM_triedLeaked vM_triedKept cM_d cM_e cM_found cM_f cM_came cM_got cM_held cM_off cM_gets = some out → W p l e ({ frames := 5, cells := 0, slots := 0, locals := 118 } : Room) s m args below meth c H locs 0 0 Q (F0 m 91 ls [.int t0]) := by
                  intro y4 y5 t0 vM_leaked vM_keptAll vM_offAll vM_triedOff vM_triedLeaked vM_triedKept cM_d cM_e cM_found cM_f cM_came cM_got cM_held cM_off cM_gets H locs ls hP hD hS hl h
                  unfold f_X8_law_J91 at h
                  refine lv_istore_n (lv' := [(3, .int t0), (4, .int y4), (5, .int y5), (0, .ref aM), (1, .int x1)]) hx hb dX8_law_91 rfl hl (by decide) rfl (fun ls hl => ?_)
                  refine lv_aload_n hx hb dX8_law_92 rfl (lv_at hl 3 rfl) ?_
                  refine va_get (D := D) (ci := 7) (v := .int vM_triedKept) (C := RX8) (T := TX8) (N := 43) hx hb hts in_X8 hown hK hP 0 rfl rfl 28 (by decide) q3 (fun _ h9 => h9) rfl dX8_law_93 ?_
                  refine lv_iload hx hb dX8_law_96 (lv_at hl 1 rfl) ?_
                  refine lv_icmp_le (tgt := 108) hx hb dX8_law_98 (by decide) (fun c7 => ?_) (fun c7 => ?_)
                  · have h := br_pos c7 h
                    refine lv_iload hx hb dX8_law_108 (lv_at hl 1 rfl) ?_
                    refine lv_istore (lv' := [(4, .int y4), (3, .int t0), (5, .int y5), (0, .ref aM), (1, .int x1)]) hx hb dX8_law_110 hl (by decide) rfl (fun ls hl => ?_)
                    refine lv_iinc (v := y5 + 1) (lv' := [(5, .int (y5 + 1)), (4, .int y4), (3, .int t0), (0, .ref aM), (1, .int x1)]) hx hb dX8_law_112 hl (k := 2) rfl rfl (by decide) rfl (fun ls hl => ?_)
                    refine lv_goto (tgt := 35) hx hb dX8_law_115 (by decide) ?_
                    exact ih35 t0 y4 (y5 + 1) vM_leaked vM_keptAll vM_offAll vM_triedOff vM_triedLeaked vM_triedKept cM_d cM_e cM_found cM_f cM_came cM_got cM_held cM_off cM_gets _ _ _ hP hD hS (lv_sub hl [2, 1, 0, 3, 4] rfl) h
                  · have h := br_neg c7 h
                    refine lv_aload_n hx hb dX8_law_101 rfl (lv_at hl 3 rfl) ?_
                    refine va_get (D := D) (ci := 7) (v := .int vM_triedKept) (C := RX8) (T := TX8) (N := 43) hx hb hts in_X8 hown hK hP 0 rfl rfl 28 (by decide) q3 (fun _ h9 => h9) rfl dX8_law_102 ?_
                    refine lv_goto (tgt := 110) hx hb dX8_law_105 (by decide) ?_
                    refine lv_istore (lv' := [(4, .int vM_triedKept), (3, .int t0), (5, .int y5), (0, .ref aM), (1, .int x1)]) hx hb dX8_law_110 hl (by decide) rfl (fun ls hl => ?_)
                    refine lv_iinc (v := y5 + 1) (lv' := [(5, .int (y5 + 1)), (4, .int vM_triedKept), (3, .int t0), (0, .ref aM), (1, .int x1)]) hx hb dX8_law_112 hl (k := 2) rfl rfl (by decide) rfl (fun ls hl => ?_)
                    refine lv_goto (tgt := 35) hx hb dX8_law_115 (by decide) ?_
                    exact ih35 t0 vM_triedKept (y5 + 1) vM_leaked vM_keptAll vM_offAll vM_triedOff vM_triedLeaked vM_triedKept cM_d cM_e cM_found cM_f cM_came cM_got cM_held cM_off cM_gets _ _ _ hP hD hS (lv_sub hl [2, 1, 0, 3, 4] rfl) h
                refine lv_icmp_le (tgt := 90) hx hb dX8_law_82 (by decide) (fun c8 => ?_) (fun c8 => ?_)
                · have h := br_pos c8 h
                  refine lv_iload_n hx hb dX8_law_90 rfl (lv_at hl 0 rfl) ?_
                  exact j91 y4 y5 y3 u6.1 u6.2.1 u6.2.2.1 u6.2.2.2.1 u6.2.2.2.2.1 u6.2.2.2.2.2.1 u6.2.2.2.2.2.2.1 cM_e cM_found u6.2.2.2.2.2.2.2.1 u6.2.2.2.2.2.2.2.2.1 u6.2.2.2.2.2.2.2.2.2.1 u6.2.2.2.2.2.2.2.2.2.2.1 u6.2.2.2.2.2.2.2.2.2.2.2.1 u6.2.2.2.2.2.2.2.2.2.2.2.2 _ _ _ hP hD hS (lv_sub hl [1, 2, 3, 4] rfl) h
                · have h := br_neg c8 h
                  refine lv_iload hx hb dX8_law_85 (lv_at hl 2 rfl) ?_
                  refine lv_goto (tgt := 91) hx hb dX8_law_87 (by decide) ?_
                  exact j91 y4 y5 y5 u6.1 u6.2.1 u6.2.2.1 u6.2.2.2.1 u6.2.2.2.2.1 u6.2.2.2.2.2.1 u6.2.2.2.2.2.2.1 cM_e cM_found u6.2.2.2.2.2.2.2.1 u6.2.2.2.2.2.2.2.2.1 u6.2.2.2.2.2.2.2.2.2.1 u6.2.2.2.2.2.2.2.2.2.2.1 u6.2.2.2.2.2.2.2.2.2.2.2.1 u6.2.2.2.2.2.2.2.2.2.2.2.2 _ _ _ hP hD hS (lv_sub hl [1, 2, 3, 4] rfl) h
              refine lv_icmp_ge (tgt := 71) hx hb dX8_law_53 (by decide) (fun c9 => ?_) (fun c9 => ?_)
              · have h := br_pos c9 h
                exact j71 y3 y4 y5 vM_leaked vM_keptAll vM_offAll vM_triedOff vM_triedLeaked vM_triedKept cM_d cM_e cM_found cM_f cM_came cM_got cM_held cM_off cM_gets _ _ _ hP hD hS (lv_sub hl [0, 1, 2, 4, 5] rfl) h
              · have h := br_neg c9 h
                refine lv_aload_n hx hb dX8_law_56 rfl (lv_at hl 4 rfl) ?_
                refine lv_iload hx hb dX8_law_57 (lv_at hl 3 rfl) ?_
                refine lv_iconst (v := 0) hx hb dX8_law_59 (by decide) ?_
                refine lv_iload hx hb dX8_law_60 (lv_at hl 2 rfl) ?_
                obtain ⟨u10, hu10, h⟩ := bd_some h
                refine cl_Vv (rest := []) F hK hP hD hS hA hl (t_X8_sets l D cyI cyJ cyZ cyB cyO aM aM_d aM_e aM_f aM_kept aM_found aM_tape aM_came aM_got aM_held aM_off aM_comesUp aM_comesDown aM_path aM_gets aM_gotNow aM_bitsOf aM_sizeOf aM_number aM_passing vM_isKept vM_taped vM_leaked vM_keptAll vM_offAll vM_up vM_down vM_sharesUp vM_sharesDown vM_onUp vM_onDown vM_great vM_triedOff vM_triedLeaked vM_triedKept vM_fitting vM_firstSet vM_inAll vM_inAny vM_at vM_sort vM_from vM_value vM_fault cM_d y6 (0 : Int32) y5 u10 hu10) (cwV 3 hts gX8_law_X8_sets rfl rfl rfl (by decide +kernel) ⟨Nat.le_of_ble_eq_true rfl, Nat.le_of_ble_eq_true rfl⟩) 0 [0, 1] [1, 2, 0, 0, 0, 0, 0, 0, 0, 0] [] (w_X8_law cyI cyJ cyZ cyB cyO aM aM_d aM_e aM_found aM_f aM_came aM_got aM_held aM_off aM_gets aM_kept aM_tape aM_comesUp aM_comesDown aM_path aM_gotNow aM_bitsOf aM_sizeOf aM_number aM_passing vM_isKept vM_taped vM_leaked vM_keptAll vM_offAll vM_up vM_down vM_sharesUp vM_sharesDown vM_onUp vM_onDown vM_great vM_triedOff vM_triedLeaked vM_triedKept vM_fitting vM_firstSet vM_inAll vM_inAny vM_at vM_sort vM_from vM_value vM_fault u10 cM_e cM_found cM_f cM_came cM_got cM_held cM_off cM_gets) rfl rfl rfl rfl rfl (by decide +kernel) rfl rfl (Nat.le_of_ble_eq_true rfl) ⟨Nat.zero_le _, Nat.zero_le _⟩ dX8_law_62 (fun H locs hP hD hS => ?_)
                refine lv_iinc (v := y6 + 1) (lv' := [(6, .int (y6 + 1)), (3, .int y3), (4, .int y4), (5, .int y5), (0, .ref aM), (1, .int x1)]) hx hb dX8_law_65 hl (k := 3) rfl rfl (by decide) rfl (fun ls hl => ?_)
                refine lv_goto (tgt := 45) hx hb dX8_law_68 (by decide) ?_
                exact ih45 y3 y4 y5 (y6 + 1) vM_leaked vM_keptAll vM_offAll vM_triedOff vM_triedLeaked vM_triedKept u10 cM_e cM_found cM_f cM_came cM_got cM_held cM_off cM_gets _ _ _ hP hD hS (lv_sub hl [1, 2, 3, 0, 4, 5] rfl) h
          exact lp45 FU y3 y4 y5 (0 : Int32) vM_leaked vM_keptAll vM_offAll vM_triedOff vM_triedLeaked vM_triedKept cM_d cM_e cM_found cM_f cM_came cM_got cM_held cM_off cM_gets _ _ _ hP hD hS (lv_sub hl [1, 2, 3, 0, 4, 5] rfl) h
    exact lp35 FU (0 : Int32) (-1 : Int32) (0 : Int32) vM_leaked vM_keptAll vM_offAll vM_triedOff vM_triedLeaked vM_triedKept cM_d u3 cM_found cM_f cM_came cM_got cM_held cM_off cM_gets _ _ _ hP hD hS (lv_sub hl [2, 1, 0, 4, 5] rfl) h
  · have h := br_neg c2 h
    refine lv_aload_n hx hb dX8_law_10 rfl (lv_at hl 1 rfl) ?_
    refine lv_iload_n hx hb dX8_law_11 rfl (lv_at hl 0 rfl) ?_
    obtain ⟨u11, hu11, h⟩ := bd_some h
    refine cl_Vi (rest := []) F hK hP hD hS hA hl (t_X8_finds l D cyI cyJ cyZ cyB cyO aM aM_found aM_d aM_e aM_f aM_kept aM_tape aM_came aM_got aM_held aM_off aM_comesUp aM_comesDown aM_path aM_gets aM_gotNow aM_bitsOf aM_sizeOf aM_number aM_passing vM_isKept vM_taped vM_leaked vM_keptAll vM_offAll vM_up vM_down vM_sharesUp vM_sharesDown vM_onUp vM_onDown vM_great vM_triedOff vM_triedLeaked vM_triedKept vM_fitting vM_firstSet vM_inAll vM_inAny vM_at vM_sort vM_from vM_value vM_fault cM_found u1 u11 hu11) (cwV 1 hts gX8_law_X8_finds rfl rfl rfl (by decide +kernel) ⟨Nat.le_of_ble_eq_true rfl, Nat.le_of_ble_eq_true rfl⟩) 0 [0, 3] [1, 0, 0, 2, 0, 0, 0, 0, 0, 0] [] (w_X8_law cyI cyJ cyZ cyB cyO aM aM_d aM_e aM_found aM_f aM_came aM_got aM_held aM_off aM_gets aM_kept aM_tape aM_comesUp aM_comesDown aM_path aM_gotNow aM_bitsOf aM_sizeOf aM_number aM_passing vM_isKept vM_taped vM_leaked vM_keptAll vM_offAll vM_up vM_down vM_sharesUp vM_sharesDown vM_onUp vM_onDown vM_great vM_triedOff vM_triedLeaked vM_triedKept vM_fitting vM_firstSet vM_inAll vM_inAny vM_at vM_sort vM_from vM_value vM_fault cM_d cM_e u11.2 cM_f cM_came cM_got cM_held cM_off cM_gets) rfl rfl rfl rfl rfl (by decide +kernel) rfl rfl (Nat.le_of_ble_eq_true rfl) ⟨Nat.zero_le _, Nat.zero_le _⟩ dX8_law_12 (fun H locs hP hD hS => ?_)
    obtain rfl := Option.some.inj h
    exact hret _ _ _ _ _ hP hD hS dX8_law_15 rfl rfl
/-! ===== X8_ones ===== -/
def w_X8_ones (cyI cyJ cyZ cyB cyO : ClassId) : va_W := []
set_option maxHeartbeats 4000000 in
set_option maxRecDepth 100000 in
theorem t_X8_ones (l : Launch) (D : va_G) (cyI cyJ cyZ cyB cyO : ClassId) (x0 : Int32) (out : Int32) (h : f_X8_ones x0 = some out) : Mi l yX8_ones wsX8_ones ({ frames := 0, cells := 0, slots := 0, locals := 0 } : Room) D (tyA cyI cyJ cyZ cyB cyO) [.int x0] (w_X8_ones cyI cyJ cyZ cyB cyO ) (w_X8_ones cyI cyJ cyZ cyB cyO ) out := by
  refine Mi.mk (cc := cX8_ones) (maxL := 3) (rt := .int) (own := RX8) (by decide) rfl rfl (Nat.le_of_ble_eq_true rfl) ?_
  intro p e s m args below meth c A Q F hK hP hD hA hret ls hl
  obtain ⟨hx, hb, hml, hown, hts⟩ := id F
  have hS : va_S A s.heap s.heap [] := va_S.rf
  have hl : lv_has ls 3 [(0, .int x0)] := hl
  unfold f_X8_ones at h
  refine lv_iconst (v := 0) hx hb dX8_ones_0 (by decide) ?_
  refine lv_istore_n (lv' := [(1, .int (0 : Int32)), (0, .int x0)]) hx hb dX8_ones_1 rfl hl (by decide) rfl (fun ls hl => ?_)
  refine lv_iconst (v := 0) hx hb dX8_ones_2 (by decide) ?_
  refine lv_istore_n (lv' := [(2, .int (0 : Int32)), (1, .int (0 : Int32)), (0, .int x0)]) hx hb dX8_ones_3 rfl hl (by decide) rfl (fun ls hl => ?_)
  have lp4 : ∀ (k4 : Nat) (y1 : Int32) (y2 : Int32) (H : Heap) (locs : List Loc) (ls : Array Slot), va_P D vwCl (w_X8_ones cyI cyJ cyZ cyB cyO ) H → va_D A (w_X8_ones cyI cyJ cyZ cyB cyO ) → va_S A s.heap H locs → lv_has ls 3 [(1, .int y1), (2, .int y2), (0, .int x0)] → (f_X8_ones_L4 x0 k4) (y1, y2) = some out → W p l e ({ frames := 0, cells := 0, slots := 0, locals := 0 } : Room) s m args below meth c H locs 0 0 Q (F0 m 4 ls []) := by
    intro k4
    induction k4 with
    | zero => intro y1 y2 H locs ls hP hD hS hl h; cases h
    | succ k4 ih4 =>
      intro y1 y2 H locs ls hP hD hS hl h
      have h : f_X8_ones_L4_b x0 (f_X8_ones_L4 x0 k4) y1 y2 = some out := h
      unfold f_X8_ones_L4_b at h
      refine lv_iload_n hx hb dX8_ones_4 rfl (lv_at hl 1 rfl) ?_
      refine lv_bipush (v := 10) hx hb dX8_ones_5 (by decide) ?_
      refine lv_icmp_ge (tgt := 24) hx hb dX8_ones_7 (by decide) (fun c1 => ?_) (fun c1 => ?_)
      · have h := br_pos c1 h
        refine lv_iload_n hx hb dX8_ones_24 rfl (lv_at hl 0 rfl) ?_
        obtain rfl := Option.some.inj h
        exact hret _ _ _ _ _ hP hD hS dX8_ones_25 rfl rfl
      · have h := br_neg c1 h
        refine lv_iload_n hx hb dX8_ones_10 rfl (lv_at hl 0 rfl) ?_
        refine lv_iload_n hx hb dX8_ones_11 rfl (lv_at hl 2 rfl) ?_
        refine lv_iload_n hx hb dX8_ones_12 rfl (lv_at hl 1 rfl) ?_
        refine lv_ishr hx hb dX8_ones_13 ?_
        refine lv_iconst (v := 1) hx hb dX8_ones_14 (by decide) ?_
        refine lv_iand hx hb dX8_ones_15 ?_
        refine lv_iadd hx hb dX8_ones_16 ?_
        refine lv_topi (fun z2 ez2 => ?_)
        have h := nm_at ez2 h
        refine lv_istore_n (lv' := [(1, .int z2), (2, .int y2), (0, .int x0)]) hx hb dX8_ones_17 rfl hl (by decide) rfl (fun ls hl => ?_)
        refine lv_iinc (v := y2 + 1) (lv' := [(2, .int (y2 + 1)), (1, .int z2), (0, .int x0)]) hx hb dX8_ones_18 hl (k := 1) rfl rfl (by decide) rfl (fun ls hl => ?_)
        refine lv_goto (tgt := 4) hx hb dX8_ones_21 (by decide) ?_
        exact ih4 z2 (y2 + 1) _ _ _ hP hD hS (lv_sub hl [1, 0, 2] rfl) h
  exact lp4 FU (0 : Int32) (0 : Int32) _ _ _ hP hD hS (lv_sub hl [1, 0, 2] rfl) h
/-! ===== X8_generous ===== -/
def w_X8_generous (cyI cyJ cyZ cyB cyO : ClassId) (aM aM_d aM_f aM_came aM_got aM_held aM_off aM_gets aM_gotNow aM_found aM_e aM_kept aM_tape aM_comesUp aM_comesDown aM_path aM_bitsOf aM_sizeOf aM_number aM_passing : Nat) (vM_isKept : Int32) (vM_taped : Int32) (vM_leaked : Int32) (vM_keptAll : Int32) (vM_offAll : Int32) (vM_up : Int64) (vM_down : Int64) (vM_sharesUp : Int64) (vM_sharesDown : Int64) (vM_onUp : Int64) (vM_onDown : Int64) (vM_great : Int32) (vM_triedOff : Int32) (vM_triedLeaked : Int32) (vM_triedKept : Int32) (vM_fitting : Int32) (vM_firstSet : Int32) (vM_inAll : Int32) (vM_inAny : Int32) (vM_at : Int32) (vM_sort : Int32) (vM_from : Int32) (vM_value : Int64) (vM_fault : Int32) (cM_d : Nat → Int32) (cM_f : Nat → Int32) (cM_came : Nat → Int32) (cM_got : Nat → Int32) (cM_held : Nat → Int32) (cM_off : Nat → Int32) (cM_gets : Nat → Int32) (cM_gotNow : Nat → Int32) (cM_found : Nat → Int32) : va_W := [(aM, .inr (7, [.ref aM_d, .ref aM_e, .ref aM_f, .ref aM_kept, .int vM_isKept, .ref aM_found, .ref aM_tape, .int vM_taped, .ref aM_came, .ref aM_got, .ref aM_held, .ref aM_off, .int vM_leaked, .int vM_keptAll, .int vM_offAll, .ref aM_comesUp, .ref aM_comesDown, .long vM_up, .long vM_down, .long vM_sharesUp, .long vM_sharesDown, .long vM_onUp, .long vM_onDown, .int vM_great, .ref aM_path, .ref aM_gets, .int vM_triedOff, .int vM_triedLeaked, .int vM_triedKept, .ref aM_gotNow, .int vM_fitting, .int vM_firstSet, .int vM_inAll, .int vM_inAny, .int vM_at, .int vM_sort, .int vM_from, .long vM_value, .int vM_fault, .ref aM_bitsOf, .ref aM_sizeOf, .ref aM_number, .ref aM_passing])), (aM_d, .inl (cyI, 64, .inl cM_d)), (aM_f, .inl (cyI, 64, .inl cM_f)), (aM_came, .inl (cyI, 10, .inl cM_came)), (aM_got, .inl (cyI, 10, .inl cM_got)), (aM_held, .inl (cyI, 10, .inl cM_held)), (aM_off, .inl (cyI, 10, .inl cM_off)), (aM_gets, .inl (cyI, 10, .inl cM_gets)), (aM_gotNow, .inl (cyI, 10, .inl cM_gotNow)), (aM_found, .inl (cyI, 7, .inl cM_found))]
set_option maxHeartbeats 4000000 in
set_option maxRecDepth 100000 in
theorem t_X8_generous (l : Launch) (D : va_G) (cyI cyJ cyZ cyB cyO : ClassId) (aM aM_d aM_f aM_came aM_got aM_held aM_off aM_gets aM_gotNow aM_found aM_e aM_kept aM_tape aM_comesUp aM_comesDown aM_path aM_bitsOf aM_sizeOf aM_number aM_passing : Nat) (vM_isKept : Int32) (vM_taped : Int32) (vM_leaked : Int32) (vM_keptAll : Int32) (vM_offAll : Int32) (vM_up : Int64) (vM_down : Int64) (vM_sharesUp : Int64) (vM_sharesDown : Int64) (vM_onUp : Int64) (vM_onDown : Int64) (vM_great : Int32) (vM_triedOff : Int32) (vM_triedLeaked : Int32) (vM_triedKept : Int32) (vM_fitting : Int32) (vM_firstSet : Int32) (vM_inAll : Int32) (vM_inAny : Int32) (vM_at : Int32) (vM_sort : Int32) (vM_from : Int32) (vM_value : Int64) (vM_fault : Int32) (cM_d : Nat → Int32) (cM_f : Nat → Int32) (cM_came : Nat → Int32) (cM_got : Nat → Int32) (cM_held : Nat → Int32) (cM_off : Nat → Int32) (cM_gets : Nat → Int32) (cM_gotNow : Nat → Int32) (cM_found : Nat → Int32) (x1 : Int32) (out : Int32 × Int32 × Int32 × Int32 × Int32 × Int32 × Int32 × (Nat → Int32) × (Nat → Int32) × (Nat → Int32) × (Nat → Int32) × (Nat → Int32) × (Nat → Int32) × (Nat → Int32) × (Nat → Int32) × (Nat → Int32)) (h : f_X8_generous x1 vM_leaked vM_keptAll vM_offAll vM_triedOff vM_triedLeaked vM_triedKept cM_d cM_f cM_came cM_got cM_held cM_off cM_gets cM_gotNow cM_found = some out) : Mi l yX8_generous wsX8_generous ({ frames := 6, cells := 0, slots := 0, locals := 140 } : Room) D (tyA cyI cyJ cyZ cyB cyO) [.ref aM, .int x1] (w_X8_generous cyI cyJ cyZ cyB cyO aM aM_d aM_f aM_came aM_got aM_held aM_off aM_gets aM_gotNow aM_found aM_e aM_kept aM_tape aM_comesUp aM_comesDown aM_path aM_bitsOf aM_sizeOf aM_number aM_passing vM_isKept vM_taped vM_leaked vM_keptAll vM_offAll vM_up vM_down vM_sharesUp vM_sharesDown vM_onUp vM_onDown vM_great vM_triedOff vM_triedLeaked vM_triedKept vM_fitting vM_firstSet vM_inAll vM_inAny vM_at vM_sort vM_from vM_value vM_fault cM_d cM_f cM_came cM_got cM_held cM_off cM_gets cM_gotNow cM_found) (w_X8_generous cyI cyJ cyZ cyB cyO aM aM_d aM_f aM_came aM_got aM_held aM_off aM_gets aM_gotNow aM_found aM_e aM_kept aM_tape aM_comesUp aM_comesDown aM_path aM_bitsOf aM_sizeOf aM_number aM_passing vM_isKept vM_taped out.2.1 out.2.2.1 out.2.2.2.1 vM_up vM_down vM_sharesUp vM_sharesDown vM_onUp vM_onDown vM_great out.2.2.2.2.1 out.2.2.2.2.2.1 out.2.2.2.2.2.2.1 vM_fitting vM_firstSet vM_inAll vM_inAny vM_at vM_sort vM_from vM_value vM_fault out.2.2.2.2.2.2.2.1 out.2.2.2.2.2.2.2.2.1 out.2.2.2.2.2.2.2.2.2.1 out.2.2.2.2.2.2.2.2.2.2.1 out.2.2.2.2.2.2.2.2.2.2.2.1 out.2.2.2.2.2.2.2.2.2.2.2.2.1 out.2.2.2.2.2.2.2.2.2.2.2.2.2.1 out.2.2.2.2.2.2.2.2.2.2.2.2.2.2.1 out.2.2.2.2.2.2.2.2.2.2.2.2.2.2.2) out.1 := by
  refine Mi.mk (cc := cX8_generous) (maxL := 8) (rt := .int) (own := RX8) (by decide) rfl rfl (Nat.le_of_ble_eq_true rfl) ?_
  intro p e s m args below meth c A Q F hK hP hD hA hret ls hl
  obtain ⟨hx, hb, hml, hown, hts⟩ := id F
  have hS : va_S A s.heap s.heap [] := va_S.rf
  have hl : lv_has ls 8 [(0, .ref aM), (1, .int x1)] := hl
  have in_X8 : ∀ w ∈ wsX80, w ∈ wsX8_generous := by decide +kernel
  have q2 := hts (Cond.methodLink RX8 243 yX8_whyHours) (List.mem_of_getElem? (i := 2) rfl)
  have q1 := hts (Cond.fieldLink RX8 7 "ThirdFountainModel" "d" "[I") (List.mem_of_getElem? (i := 1) rfl)
  have q21 := hts (Cond.methodLink RX8 236 yX8_keepGets) (List.mem_of_getElem? (i := 21) rfl)
  have q53 := hts (Cond.methodLink RX8 74 yX8_its) (List.mem_of_getElem? (i := 53) rfl)
  have q70 := hts (Cond.methodLink RX8 105 yX8_sets) (List.mem_of_getElem? (i := 70) rfl)
  have q27 := hts (Cond.methodLink RX8 224 yX8_tries) (List.mem_of_getElem? (i := 27) rfl)
  have q74 := hts (Cond.methodLink RX8 239 yX8_getting) (List.mem_of_getElem? (i := 74) rfl)
  have q78 := hts (Cond.methodLink RX8 246 yX8_ones) (List.mem_of_getElem? (i := 78) rfl)
  have q15 := hts (Cond.methodLink RX8 115 yX8_finds) (List.mem_of_getElem? (i := 15) rfl)
  unfold f_X8_generous at h
  refine lv_aload_n hx hb dX8_generous_0 rfl (lv_at hl 0 rfl) ?_
  refine lv_iload_n hx hb dX8_generous_1 rfl (lv_at hl 1 rfl) ?_
  obtain ⟨u1, hu1, h⟩ := bd_some h
  refine cl_Vi (rest := []) F hK hP hD hS hA hl (t_X8_whyHours l D cyI cyJ cyZ cyB cyO aM aM_d aM_e aM_f aM_kept aM_found aM_tape aM_came aM_got aM_held aM_off aM_comesUp aM_comesDown aM_path aM_gets aM_gotNow aM_bitsOf aM_sizeOf aM_number aM_passing vM_isKept vM_taped vM_leaked vM_keptAll vM_offAll vM_up vM_down vM_sharesUp vM_sharesDown vM_onUp vM_onDown vM_great vM_triedOff vM_triedLeaked vM_triedKept vM_fitting vM_firstSet vM_inAll vM_inAny vM_at vM_sort vM_from vM_value vM_fault cM_d x1 u1 hu1) (cwV 1 hts gX8_generous_X8_whyHours rfl rfl rfl (by decide +kernel) ⟨Nat.le_of_ble_eq_true rfl, Nat.le_of_ble_eq_true rfl⟩) 0 [0, 1] [1, 2, 0, 0, 0, 0, 0, 0, 0, 0] [] (w_X8_generous cyI cyJ cyZ cyB cyO aM aM_d aM_f aM_came aM_got aM_held aM_off aM_gets aM_gotNow aM_found aM_e aM_kept aM_tape aM_comesUp aM_comesDown aM_path aM_bitsOf aM_sizeOf aM_number aM_passing vM_isKept vM_taped vM_leaked vM_keptAll vM_offAll vM_up vM_down vM_sharesUp vM_sharesDown vM_onUp vM_onDown vM_great vM_triedOff vM_triedLeaked vM_triedKept vM_fitting vM_firstSet vM_inAll vM_inAny vM_at vM_sort vM_from vM_value vM_fault cM_d cM_f cM_came cM_got cM_held cM_off cM_gets cM_gotNow cM_found) rfl rfl rfl rfl rfl (by decide +kernel) rfl rfl (Nat.le_of_ble_eq_true rfl) ⟨Nat.zero_le _, Nat.zero_le _⟩ dX8_generous_2 (fun H locs hP hD hS => ?_)
  refine lv_istore_n (lv' := [(2, .int u1), (0, .ref aM), (1, .int x1)]) hx hb dX8_generous_5 rfl hl (by decide) rfl (fun ls hl => ?_)
  refine lv_iload_n hx hb dX8_generous_6 rfl (lv_at hl 0 rfl) ?_
  refine lv_if_lt (tgt := 16) hx hb dX8_generous_7 (by decide) (fun c2 => ?_) (fun c2 => ?_)
  · have h := br_pos c2 h
    refine lv_aload_n hx hb dX8_generous_16 rfl (lv_at hl 1 rfl) ?_
    refine va_get (D := D) (ci := 7) (v := .ref aM_d) (C := RX8) (T := TX8) (N := 43) hx hb hts in_X8 hown hK hP 0 rfl rfl 0 (by decide) q1 (fun _ h9 => h9) rfl dX8_generous_17 ?_
    refine lv_iconst (v := 0) hx hb dX8_generous_20 (by decide) ?_
    refine va_iald hx hb hK hP 1 0 rfl rfl (by unfold vp_in; decide) dX8_generous_21 ?_
    refine lv_if_ne (tgt := 31) hx hb dX8_generous_22 (by decide) (fun c3 => ?_) (fun c3 => ?_)
    · have h := br_neg c3 h
      refine lv_aload_n hx hb dX8_generous_31 rfl (lv_at hl 1 rfl) ?_
      refine lv_iload_n hx hb dX8_generous_32 rfl (lv_at hl 2 rfl) ?_
      obtain ⟨u4, hu4, h⟩ := bd_some h
      refine cl_Vv (rest := []) F hK hP hD hS hA hl (t_X8_keepGets l D cyI cyJ cyZ cyB cyO aM aM_d aM_f aM_came aM_got aM_held aM_off aM_gets aM_gotNow aM_e aM_kept aM_found aM_tape aM_comesUp aM_comesDown aM_path aM_bitsOf aM_sizeOf aM_number aM_passing vM_isKept vM_taped vM_leaked vM_keptAll vM_offAll vM_up vM_down vM_sharesUp vM_sharesDown vM_onUp vM_onDown vM_great vM_triedOff vM_triedLeaked vM_triedKept vM_fitting vM_firstSet vM_inAll vM_inAny vM_at vM_sort vM_from vM_value vM_fault cM_d cM_f cM_came cM_got cM_held cM_off cM_gets cM_gotNow x1 u4 hu4) (cwV 1 hts gX8_generous_X8_keepGets rfl rfl rfl (by decide +kernel) ⟨Nat.le_of_ble_eq_true rfl, Nat.le_of_ble_eq_true rfl⟩) 0 [0, 1, 2, 3, 4, 5, 6, 7, 8] [1, 2, 3, 4, 5, 6, 7, 8, 9, 0] [] (w_X8_generous cyI cyJ cyZ cyB cyO aM aM_d aM_f aM_came aM_got aM_held aM_off aM_gets aM_gotNow aM_found aM_e aM_kept aM_tape aM_comesUp aM_comesDown aM_path aM_bitsOf aM_sizeOf aM_number aM_passing vM_isKept vM_taped u4.1 u4.2.1 u4.2.2.1 vM_up vM_down vM_sharesUp vM_sharesDown vM_onUp vM_onDown vM_great u4.2.2.2.1 u4.2.2.2.2.1 u4.2.2.2.2.2.1 vM_fitting vM_firstSet vM_inAll vM_inAny vM_at vM_sort vM_from vM_value vM_fault u4.2.2.2.2.2.2.1 u4.2.2.2.2.2.2.2.1 u4.2.2.2.2.2.2.2.2.1 u4.2.2.2.2.2.2.2.2.2.1 u4.2.2.2.2.2.2.2.2.2.2.1 u4.2.2.2.2.2.2.2.2.2.2.2.1 u4.2.2.2.2.2.2.2.2.2.2.2.2.1 u4.2.2.2.2.2.2.2.2.2.2.2.2.2 cM_found) rfl rfl rfl rfl rfl (by decide +kernel) rfl rfl (Nat.le_of_ble_eq_true rfl) ⟨Nat.zero_le _, Nat.zero_le _⟩ dX8_generous_33 (fun H locs hP hD hS => ?_)
      refine lv_iconst (v := 0) hx hb dX8_generous_36 (by decide) ?_
      refine lv_istore_n (lv' := [(3, .int (0 : Int32)), (2, .int u1), (0, .ref aM), (1, .int x1)]) hx hb dX8_generous_37 rfl hl (by decide) rfl (fun ls hl => ?_)
      refine lv_iconst (v := -1) hx hb dX8_generous_38 (by decide) ?_
      refine lv_istore (lv' := [(4, .int (-1 : Int32)), (3, .int (0 : Int32)), (2, .int u1), (0, .ref aM), (1, .int x1)]) hx hb dX8_generous_39 hl (by decide) rfl (fun ls hl => ?_)
      refine lv_iconst (v := 0) hx hb dX8_generous_41 (by decide) ?_
      refine lv_istore (lv' := [(5, .int (0 : Int32)), (4, .int (-1 : Int32)), (3, .int (0 : Int32)), (2, .int u1), (0, .ref aM), (1, .int x1)]) hx hb dX8_generous_42 hl (by decide) rfl (fun ls hl => ?_)
      have lp44 : ∀ (k44 : Nat) (y3 : Int32) (y4 : Int32) (y5 : Int32) (vM_leaked : Int32) (vM_keptAll : Int32) (vM_offAll : Int32) (vM_triedOff : Int32) (vM_triedLeaked : Int32) (vM_triedKept : Int32) (cM_d : Nat → Int32) (cM_f : Nat → Int32) (cM_came : Nat → Int32) (cM_got : Nat → Int32) (cM_held : Nat → Int32) (cM_off : Nat → Int32) (cM_gets : Nat → Int32) (cM_gotNow : Nat → Int32) (cM_found : Nat → Int32) (H : Heap) (locs : List Loc) (ls : Array Slot), va_P D vwCl (w_X8_generous cyI cyJ cyZ cyB cyO aM aM_d aM_f aM_came aM_got aM_held aM_off aM_gets aM_gotNow aM_found aM_e aM_kept aM_tape aM_comesUp aM_comesDown aM_path aM_bitsOf aM_sizeOf aM_number aM_passing vM_isKept vM_taped vM_leaked vM_keptAll vM_offAll vM_up vM_down vM_sharesUp vM_sharesDown vM_onUp vM_onDown vM_great vM_triedOff vM_triedLeaked vM_triedKept vM_fitting vM_firstSet vM_inAll vM_inAny vM_at vM_sort vM_from vM_value vM_fault cM_d cM_f cM_came cM_got cM_held cM_off cM_gets cM_gotNow cM_found) H → va_D A (w_X8_generous cyI cyJ cyZ cyB cyO aM aM_d aM_f aM_came aM_got aM_held aM_off aM_gets aM_gotNow aM_found aM_e aM_kept aM_tape aM_comesUp aM_comesDown aM_path aM_bitsOf aM_sizeOf aM_number aM_passing vM_isKept vM_taped vM_leaked vM_keptAll vM_offAll vM_up vM_down vM_sharesUp vM_sharesDown vM_onUp vM_onDown vM_great vM_triedOff vM_triedLeaked vM_triedKept vM_fitting vM_firstSet vM_inAll vM_inAny vM_at vM_sort vM_from vM_value vM_fault cM_d cM_f cM_came cM_got cM_held cM_off cM_gets cM_gotNow cM_found) → va_S A s.heap H locs → lv_has ls 8 [(3, .int y3), (4, .int y4), (5, .int y5), (0, .ref aM), (1, .int x1)] → (f_X8_generous_L44 x1 k44) (y3, y4, y5, vM_leaked, vM_keptAll, vM_offAll, vM_triedOff, vM_triedLeaked, vM_triedKept, cM_d, cM_f, cM_came, cM_got, cM_held, cM_off, cM_gets, cM_gotNow, cM_found) = some out → W p l e ({ frames := 6, cells := 0, slots := 0, locals := 140 } : Room) s m args below meth c H locs 0 0 Q (F0 m 44 ls []) := by
        intro k44
        induction k44 with
        | zero => intro y3 y4 y5 vM_leaked vM_keptAll vM_offAll vM_triedOff vM_triedLeaked vM_triedKept cM_d cM_f cM_came cM_got cM_held cM_off cM_gets cM_gotNow cM_found H locs ls hP hD hS hl h; cases h
        | succ k44 ih44 =>
          intro y3 y4 y5 vM_leaked vM_keptAll vM_offAll vM_triedOff vM_triedLeaked vM_triedKept cM_d cM_f cM_came cM_got cM_held cM_off cM_gets cM_gotNow cM_found H locs ls hP hD hS hl h
          have h : f_X8_generous_L44_b x1 (f_X8_generous_L44 x1 k44) y3 y4 y5 vM_leaked vM_keptAll vM_offAll vM_triedOff vM_triedLeaked vM_triedKept cM_d cM_f cM_came cM_got cM_held cM_off cM_gets cM_gotNow cM_found = some out := h
          unfold f_X8_generous_L44_b at h
          refine lv_iload hx hb dX8_generous_44 (lv_at hl 2 rfl) ?_
          refine lv_aload_n hx hb dX8_generous_46 rfl (lv_at hl 3 rfl) ?_
          refine va_get (D := D) (ci := 7) (v := .ref aM_d) (C := RX8) (T := TX8) (N := 43) hx hb hts in_X8 hown hK hP 0 rfl rfl 0 (by decide) q1 (fun _ h9 => h9) rfl dX8_generous_47 ?_
          refine lv_iconst (v := 0) hx hb dX8_generous_50 (by decide) ?_
          refine va_iald hx hb hK hP 1 0 rfl rfl (by unfold vp_in; decide) dX8_generous_51 ?_
          refine lv_icmp_ge (tgt := 139) hx hb dX8_generous_52 (by decide) (fun c5 => ?_) (fun c5 => ?_)
          · have h := br_pos c5 h
            refine lv_iload_n hx hb dX8_generous_139 rfl (lv_at hl 0 rfl) ?_
            obtain rfl := Option.some.inj h
            exact hret _ _ _ _ _ hP hD hS dX8_generous_140 rfl rfl
          · have h := br_neg c5 h
            refine lv_aload_n hx hb dX8_generous_55 rfl (lv_at hl 3 rfl) ?_
            refine lv_iload hx hb dX8_generous_56 (lv_at hl 2 rfl) ?_
            refine lv_iconst (v := 0) hx hb dX8_generous_58 (by decide) ?_
            obtain ⟨u6, hu6, h⟩ := bd_some h
            refine cl_Vi (rest := []) F hK hP hD hS hA hl (t_X8_its l D cyI cyJ cyZ cyB cyO aM aM_d aM_e aM_f aM_kept aM_found aM_tape aM_came aM_got aM_held aM_off aM_comesUp aM_comesDown aM_path aM_gets aM_gotNow aM_bitsOf aM_sizeOf aM_number aM_passing vM_isKept vM_taped vM_leaked vM_keptAll vM_offAll vM_up vM_down vM_sharesUp vM_sharesDown vM_onUp vM_onDown vM_great vM_triedOff vM_triedLeaked vM_triedKept vM_fitting vM_firstSet vM_inAll vM_inAny vM_at vM_sort vM_from vM_value vM_fault cM_d y5 (0 : Int32) u6 hu6) (cwV 2 hts gX8_generous_X8_its rfl rfl rfl (by decide +kernel) ⟨Nat.le_of_ble_eq_true rfl, Nat.le_of_ble_eq_true rfl⟩) 0 [0, 1] [1, 2, 0, 0, 0, 0, 0, 0, 0, 0] [] (w_X8_generous cyI cyJ cyZ cyB cyO aM aM_d aM_f aM_came aM_got aM_held aM_off aM_gets aM_gotNow aM_found aM_e aM_kept aM_tape aM_comesUp aM_comesDown aM_path aM_bitsOf aM_sizeOf aM_number aM_passing vM_isKept vM_taped vM_leaked vM_keptAll vM_offAll vM_up vM_down vM_sharesUp vM_sharesDown vM_onUp vM_onDown vM_great vM_triedOff vM_triedLeaked vM_triedKept vM_fitting vM_firstSet vM_inAll vM_inAny vM_at vM_sort vM_from vM_value vM_fault cM_d cM_f cM_came cM_got cM_held cM_off cM_gets cM_gotNow cM_found) rfl rfl rfl rfl rfl (by decide +kernel) rfl rfl (Nat.le_of_ble_eq_true rfl) ⟨Nat.zero_le _, Nat.zero_le _⟩ dX8_generous_59 (fun H locs hP hD hS => ?_)
            refine lv_istore (lv' := [(6, .int u6), (3, .int y3), (4, .int y4), (5, .int y5), (0, .ref aM), (1, .int x1)]) hx hb dX8_generous_62 hl (by decide) rfl (fun ls hl => ?_)
            refine lv_aload_n hx hb dX8_generous_64 rfl (lv_at hl 4 rfl) ?_
            refine lv_iload hx hb dX8_generous_65 (lv_at hl 3 rfl) ?_
            refine lv_iconst (v := 0) hx hb dX8_generous_67 (by decide) ?_
            refine lv_iconst (v := 3) hx hb dX8_generous_68 (by decide) ?_
            obtain ⟨u7, hu7, h⟩ := bd_some h
            refine cl_Vv (rest := []) F hK hP hD hS hA hl (t_X8_sets l D cyI cyJ cyZ cyB cyO aM aM_d aM_e aM_f aM_kept aM_found aM_tape aM_came aM_got aM_held aM_off aM_comesUp aM_comesDown aM_path aM_gets aM_gotNow aM_bitsOf aM_sizeOf aM_number aM_passing vM_isKept vM_taped vM_leaked vM_keptAll vM_offAll vM_up vM_down vM_sharesUp vM_sharesDown vM_onUp vM_onDown vM_great vM_triedOff vM_triedLeaked vM_triedKept vM_fitting vM_firstSet vM_inAll vM_inAny vM_at vM_sort vM_from vM_value vM_fault cM_d y5 (0 : Int32) (3 : Int32) u7 hu7) (cwV 3 hts gX8_generous_X8_sets rfl rfl rfl (by decide +kernel) ⟨Nat.le_of_ble_eq_true rfl, Nat.le_of_ble_eq_true rfl⟩) 0 [0, 1] [1, 2, 0, 0, 0, 0, 0, 0, 0, 0] [] (w_X8_generous cyI cyJ cyZ cyB cyO aM aM_d aM_f aM_came aM_got aM_held aM_off aM_gets aM_gotNow aM_found aM_e aM_kept aM_tape aM_comesUp aM_comesDown aM_path aM_bitsOf aM_sizeOf aM_number aM_passing vM_isKept vM_taped vM_leaked vM_keptAll vM_offAll vM_up vM_down vM_sharesUp vM_sharesDown vM_onUp vM_onDown vM_great vM_triedOff vM_triedLeaked vM_triedKept vM_fitting vM_firstSet vM_inAll vM_inAny vM_at vM_sort vM_from vM_value vM_fault u7 cM_f cM_came cM_got cM_held cM_off cM_gets cM_gotNow cM_found) rfl rfl rfl rfl rfl (by decide +kernel) rfl rfl (Nat.le_of_ble_eq_true rfl) ⟨Nat.zero_le _, Nat.zero_le _⟩ dX8_generous_69 (fun H locs hP hD hS => ?_)
            refine lv_aload_n hx hb dX8_generous_72 rfl (lv_at hl 4 rfl) ?_
            refine lv_iload_n hx hb dX8_generous_73 rfl (lv_at hl 5 rfl) ?_
            obtain ⟨u8, hu8, h⟩ := bd_some h
            refine cl_Vv (rest := []) F hK hP hD hS hA hl (t_X8_tries l D cyI cyJ cyZ cyB cyO aM aM_d aM_f aM_came aM_got aM_held aM_off aM_gets aM_e aM_kept aM_found aM_tape aM_comesUp aM_comesDown aM_path aM_gotNow aM_bitsOf aM_sizeOf aM_number aM_passing vM_isKept vM_taped vM_leaked vM_keptAll vM_offAll vM_up vM_down vM_sharesUp vM_sharesDown vM_onUp vM_onDown vM_great vM_triedOff vM_triedLeaked vM_triedKept vM_fitting vM_firstSet vM_inAll vM_inAny vM_at vM_sort vM_from vM_value vM_fault u7 cM_f cM_came cM_got cM_held cM_off cM_gets x1 u8 hu8) (cwV 1 hts gX8_generous_X8_tries rfl rfl rfl (by decide +kernel) ⟨Nat.le_of_ble_eq_true rfl, Nat.le_of_ble_eq_true rfl⟩) 0 [0, 1, 2, 3, 4, 5, 6, 7] [1, 2, 3, 4, 5, 6, 7, 8, 0, 0] [] (w_X8_generous cyI cyJ cyZ cyB cyO aM aM_d aM_f aM_came aM_got aM_held aM_off aM_gets aM_gotNow aM_found aM_e aM_kept aM_tape aM_comesUp aM_comesDown aM_path aM_bitsOf aM_sizeOf aM_number aM_passing vM_isKept vM_taped u8.1 u8.2.1 u8.2.2.1 vM_up vM_down vM_sharesUp vM_sharesDown vM_onUp vM_onDown vM_great u8.2.2.2.1 u8.2.2.2.2.1 u8.2.2.2.2.2.1 vM_fitting vM_firstSet vM_inAll vM_inAny vM_at vM_sort vM_from vM_value vM_fault u8.2.2.2.2.2.2.1 u8.2.2.2.2.2.2.2.1 u8.2.2.2.2.2.2.2.2.1 u8.2.2.2.2.2.2.2.2.2.1 u8.2.2.2.2.2.2.2.2.2.2.1 u8.2.2.2.2.2.2.2.2.2.2.2.1 u8.2.2.2.2.2.2.2.2.2.2.2.2 cM_gotNow cM_found) rfl rfl rfl rfl rfl (by decide +kernel) rfl rfl (Nat.le_of_ble_eq_true rfl) ⟨Nat.zero_le _, Nat.zero_le _⟩ dX8_generous_74 (fun H locs hP hD hS => ?_)
            refine lv_aload_n hx hb dX8_generous_77 rfl (lv_at hl 4 rfl) ?_
            refine lv_iload hx hb dX8_generous_78 (lv_at hl 3 rfl) ?_
            refine lv_iconst (v := 0) hx hb dX8_generous_80 (by decide) ?_
            refine lv_iload hx hb dX8_generous_81 (lv_at hl 0 rfl) ?_
            obtain ⟨u9, hu9, h⟩ := bd_some h
            refine cl_Vv (rest := []) F hK hP hD hS hA hl (t_X8_sets l D cyI cyJ cyZ cyB cyO aM aM_d aM_e aM_f aM_kept aM_found aM_tape aM_came aM_got aM_held aM_off aM_comesUp aM_comesDown aM_path aM_gets aM_gotNow aM_bitsOf aM_sizeOf aM_number aM_passing vM_isKept vM_taped u8.1 u8.2.1 u8.2.2.1 vM_up vM_down vM_sharesUp vM_sharesDown vM_onUp vM_onDown vM_great u8.2.2.2.1 u8.2.2.2.2.1 u8.2.2.2.2.2.1 vM_fitting vM_firstSet vM_inAll vM_inAny vM_at vM_sort vM_from vM_value vM_fault u8.2.2.2.2.2.2.1 y5 (0 : Int32) u6 u9 hu9) (cwV 3 hts gX8_generous_X8_sets rfl rfl rfl (by decide +kernel) ⟨Nat.le_of_ble_eq_true rfl, Nat.le_of_ble_eq_true rfl⟩) 0 [0, 1] [1, 2, 0, 0, 0, 0, 0, 0, 0, 0] [] (w_X8_generous cyI cyJ cyZ cyB cyO aM aM_d aM_f aM_came aM_got aM_held aM_off aM_gets aM_gotNow aM_found aM_e aM_kept aM_tape aM_comesUp aM_comesDown aM_path aM_bitsOf aM_sizeOf aM_number aM_passing vM_isKept vM_taped u8.1 u8.2.1 u8.2.2.1 vM_up vM_down vM_sharesUp vM_sharesDown vM_onUp vM_onDown vM_great u8.2.2.2.1 u8.2.2.2.2.1 u8.2.2.2.2.2.1 vM_fitting vM_firstSet vM_inAll vM_inAny vM_at vM_sort vM_from vM_value vM_fault u9 u8.2.2.2.2.2.2.2.1 u8.2.2.2.2.2.2.2.2.1 u8.2.2.2.2.2.2.2.2.2.1 u8.2.2.2.2.2.2.2.2.2.2.1 u8.2.2.2.2.2.2.2.2.2.2.2.1 u8.2.2.2.2.2.2.2.2.2.2.2.2 cM_gotNow cM_found) rfl rfl rfl rfl rfl (by decide +kernel) rfl rfl (Nat.le_of_ble_eq_true rfl) ⟨Nat.zero_le _, Nat.zero_le _⟩ dX8_generous_83 (fun H locs hP hD hS => ?_)
            refine lv_aload_n hx hb dX8_generous_86 rfl (lv_at hl 4 rfl) ?_
            refine lv_iconst (v := 1) hx hb dX8_generous_87 (by decide) ?_
            obtain ⟨u10, hu10, h⟩ := bd_some h
            refine cl_Vi (rest := []) F hK hP hD hS hA hl (t_X8_getting l D cyI cyJ cyZ cyB cyO aM aM_d aM_gets aM_gotNow aM_e aM_f aM_kept aM_found aM_tape aM_came aM_got aM_held aM_off aM_comesUp aM_comesDown aM_path aM_bitsOf aM_sizeOf aM_number aM_passing vM_isKept vM_taped u8.1 u8.2.1 u8.2.2.1 vM_up vM_down vM_sharesUp vM_sharesDown vM_onUp vM_onDown vM_great u8.2.2.2.1 u8.2.2.2.2.1 u8.2.2.2.2.2.1 vM_fitting vM_firstSet vM_inAll vM_inAny vM_at vM_sort vM_from vM_value vM_fault u9 u8.2.2.2.2.2.2.2.2.2.2.2.2 cM_gotNow (1 : Int32) u10 hu10) (cwV 1 hts gX8_generous_X8_getting rfl rfl rfl (by decide +kernel) ⟨Nat.le_of_ble_eq_true rfl, Nat.le_of_ble_eq_true rfl⟩) 0 [0, 1, 7, 8] [1, 2, 0, 0, 0, 0, 0, 3, 4, 0] [] (w_X8_generous cyI cyJ cyZ cyB cyO aM aM_d aM_f aM_came aM_got aM_held aM_off aM_gets aM_gotNow aM_found aM_e aM_kept aM_tape aM_comesUp aM_comesDown aM_path aM_bitsOf aM_sizeOf aM_number aM_passing vM_isKept vM_taped u8.1 u8.2.1 u8.2.2.1 vM_up vM_down vM_sharesUp vM_sharesDown vM_onUp vM_onDown vM_great u8.2.2.2.1 u8.2.2.2.2.1 u8.2.2.2.2.2.1 vM_fitting vM_firstSet vM_inAll vM_inAny vM_at vM_sort vM_from vM_value vM_fault u9 u8.2.2.2.2.2.2.2.1 u8.2.2.2.2.2.2.2.2.1 u8.2.2.2.2.2.2.2.2.2.1 u8.2.2.2.2.2.2.2.2.2.2.1 u8.2.2.2.2.2.2.2.2.2.2.2.1 u8.2.2.2.2.2.2.2.2.2.2.2.2 cM_gotNow cM_found) rfl rfl rfl rfl rfl (by decide +kernel) rfl rfl (Nat.le_of_ble_eq_true rfl) ⟨Nat.zero_le _, Nat.zero_le _⟩ dX8_generous_88 (fun H locs hP hD hS => ?_)
            refine lv_iconst (v := 1) hx hb dX8_generous_91 (by decide) ?_
            refine lv_iload hx hb dX8_generous_92 (lv_at hl 3 rfl) ?_
            refine lv_ishl hx hb dX8_generous_94 ?_
            refine lv_iconst (v := -1) hx hb dX8_generous_95 (by decide) ?_
            refine lv_ixor hx hb dX8_generous_96 ?_
            refine lv_iand hx hb dX8_generous_97 ?_
            obtain ⟨u11, hu11, h⟩ := bd_some h
            refine cl_Si (rest := []) F hK hP hD hS hA hl (t_X8_ones l D cyI cyJ cyZ cyB cyO (u10 &&& (((1 : Int32) <<< (y5 &&& 31)) ^^^ (-1 : Int32))) u11 hu11) (va_cwS 1 hts gX8_generous_X8_ones rfl rfl rfl (by decide +kernel) ⟨Nat.le_of_ble_eq_true rfl, Nat.le_of_ble_eq_true rfl⟩) [] [0, 0, 0, 0, 0, 0, 0, 0, 0, 0] [] (w_X8_generous cyI cyJ cyZ cyB cyO aM aM_d aM_f aM_came aM_got aM_held aM_off aM_gets aM_gotNow aM_found aM_e aM_kept aM_tape aM_comesUp aM_comesDown aM_path aM_bitsOf aM_sizeOf aM_number aM_passing vM_isKept vM_taped u8.1 u8.2.1 u8.2.2.1 vM_up vM_down vM_sharesUp vM_sharesDown vM_onUp vM_onDown vM_great u8.2.2.2.1 u8.2.2.2.2.1 u8.2.2.2.2.2.1 vM_fitting vM_firstSet vM_inAll vM_inAny vM_at vM_sort vM_from vM_value vM_fault u9 u8.2.2.2.2.2.2.2.1 u8.2.2.2.2.2.2.2.2.1 u8.2.2.2.2.2.2.2.2.2.1 u8.2.2.2.2.2.2.2.2.2.2.1 u8.2.2.2.2.2.2.2.2.2.2.2.1 u8.2.2.2.2.2.2.2.2.2.2.2.2 cM_gotNow cM_found) rfl rfl rfl (by decide +kernel) rfl rfl (Nat.le_of_ble_eq_true rfl) ⟨Nat.zero_le _, Nat.zero_le _⟩ dX8_generous_98 (fun H locs hP hD hS => ?_)
            refine lv_istore (lv' := [(7, .int u11), (6, .int u6), (3, .int y3), (4, .int y4), (5, .int y5), (0, .ref aM), (1, .int x1)]) hx hb dX8_generous_101 hl (by decide) rfl (fun ls hl => ?_)
            refine lv_iload hx hb dX8_generous_103 (lv_at hl 0 rfl) ?_
            refine lv_iload hx hb dX8_generous_105 (lv_at hl 3 rfl) ?_
            refine lv_icmp_le (tgt := 115) hx hb dX8_generous_107 (by decide) (fun c12 => ?_) (fun c12 => ?_)
            · have h := br_pos c12 h
              refine lv_iload_n hx hb dX8_generous_115 rfl (lv_at hl 2 rfl) ?_
              refine lv_istore_n (lv' := [(3, .int y3), (7, .int u11), (6, .int u6), (4, .int y4), (5, .int y5), (0, .ref aM), (1, .int x1)]) hx hb dX8_generous_116 rfl hl (by decide) rfl (fun ls hl => ?_)
              refine lv_iload hx hb dX8_generous_117 (lv_at hl 1 rfl) ?_
              refine lv_iload hx hb dX8_generous_119 (lv_at hl 3 rfl) ?_
              refine lv_icmp_le (tgt := 129) hx hb dX8_generous_121 (by decide) (fun c13 => ?_) (fun c13 => ?_)
              · have h := br_pos c13 h
                refine lv_iload hx hb dX8_generous_129 (lv_at hl 3 rfl) ?_
                refine lv_istore (lv' := [(4, .int y4), (3, .int y3), (7, .int u11), (6, .int u6), (5, .int y5), (0, .ref aM), (1, .int x1)]) hx hb dX8_generous_131 hl (by decide) rfl (fun ls hl => ?_)
                refine lv_iinc (v := y5 + 1) (lv' := [(5, .int (y5 + 1)), (4, .int y4), (3, .int y3), (7, .int u11), (6, .int u6), (0, .ref aM), (1, .int x1)]) hx hb dX8_generous_133 hl (k := 4) rfl rfl (by decide) rfl (fun ls hl => ?_)
                refine lv_goto (tgt := 44) hx hb dX8_generous_136 (by decide) ?_
                exact ih44 y3 y4 (y5 + 1) u8.1 u8.2.1 u8.2.2.1 u8.2.2.2.1 u8.2.2.2.2.1 u8.2.2.2.2.2.1 u9 u8.2.2.2.2.2.2.2.1 u8.2.2.2.2.2.2.2.2.1 u8.2.2.2.2.2.2.2.2.2.1 u8.2.2.2.2.2.2.2.2.2.2.1 u8.2.2.2.2.2.2.2.2.2.2.2.1 u8.2.2.2.2.2.2.2.2.2.2.2.2 cM_gotNow cM_found _ _ _ hP hD hS (lv_sub hl [2, 1, 0, 5, 6] rfl) h
              · have h := br_neg c13 h
                refine lv_iload hx hb dX8_generous_124 (lv_at hl 1 rfl) ?_
                refine lv_goto (tgt := 131) hx hb dX8_generous_126 (by decide) ?_
                refine lv_istore (lv' := [(4, .int u11), (3, .int y3), (7, .int u11), (6, .int u6), (5, .int y5), (0, .ref aM), (1, .int x1)]) hx hb dX8_generous_131 hl (by decide) rfl (fun ls hl => ?_)
                refine lv_iinc (v := y5 + 1) (lv' := [(5, .int (y5 + 1)), (4, .int u11), (3, .int y3), (7, .int u11), (6, .int u6), (0, .ref aM), (1, .int x1)]) hx hb dX8_generous_133 hl (k := 4) rfl rfl (by decide) rfl (fun ls hl => ?_)
                refine lv_goto (tgt := 44) hx hb dX8_generous_136 (by decide) ?_
                exact ih44 y3 u11 (y5 + 1) u8.1 u8.2.1 u8.2.2.1 u8.2.2.2.1 u8.2.2.2.2.1 u8.2.2.2.2.2.1 u9 u8.2.2.2.2.2.2.2.1 u8.2.2.2.2.2.2.2.2.1 u8.2.2.2.2.2.2.2.2.2.1 u8.2.2.2.2.2.2.2.2.2.2.1 u8.2.2.2.2.2.2.2.2.2.2.2.1 u8.2.2.2.2.2.2.2.2.2.2.2.2 cM_gotNow cM_found _ _ _ hP hD hS (lv_sub hl [2, 1, 0, 5, 6] rfl) h
            · have h := br_neg c12 h
              refine lv_iload hx hb dX8_generous_110 (lv_at hl 4 rfl) ?_
              refine lv_goto (tgt := 116) hx hb dX8_generous_112 (by decide) ?_
              refine lv_istore_n (lv' := [(3, .int y5), (7, .int u11), (6, .int u6), (4, .int y4), (5, .int y5), (0, .ref aM), (1, .int x1)]) hx hb dX8_generous_116 rfl hl (by decide) rfl (fun ls hl => ?_)
              refine lv_iload hx hb dX8_generous_117 (lv_at hl 1 rfl) ?_
              refine lv_iload hx hb dX8_generous_119 (lv_at hl 3 rfl) ?_
              refine lv_icmp_le (tgt := 129) hx hb dX8_generous_121 (by decide) (fun c14 => ?_) (fun c14 => ?_)
              · have h := br_pos c14 h
                refine lv_iload hx hb dX8_generous_129 (lv_at hl 3 rfl) ?_
                refine lv_istore (lv' := [(4, .int y4), (3, .int y5), (7, .int u11), (6, .int u6), (5, .int y5), (0, .ref aM), (1, .int x1)]) hx hb dX8_generous_131 hl (by decide) rfl (fun ls hl => ?_)
                refine lv_iinc (v := y5 + 1) (lv' := [(5, .int (y5 + 1)), (4, .int y4), (3, .int y5), (7, .int u11), (6, .int u6), (0, .ref aM), (1, .int x1)]) hx hb dX8_generous_133 hl (k := 4) rfl rfl (by decide) rfl (fun ls hl => ?_)
                refine lv_goto (tgt := 44) hx hb dX8_generous_136 (by decide) ?_
                exact ih44 y5 y4 (y5 + 1) u8.1 u8.2.1 u8.2.2.1 u8.2.2.2.1 u8.2.2.2.2.1 u8.2.2.2.2.2.1 u9 u8.2.2.2.2.2.2.2.1 u8.2.2.2.2.2.2.2.2.1 u8.2.2.2.2.2.2.2.2.2.1 u8.2.2.2.2.2.2.2.2.2.2.1 u8.2.2.2.2.2.2.2.2.2.2.2.1 u8.2.2.2.2.2.2.2.2.2.2.2.2 cM_gotNow cM_found _ _ _ hP hD hS (lv_sub hl [2, 1, 0, 5, 6] rfl) h
              · have h := br_neg c14 h
                refine lv_iload hx hb dX8_generous_124 (lv_at hl 1 rfl) ?_
                refine lv_goto (tgt := 131) hx hb dX8_generous_126 (by decide) ?_
                refine lv_istore (lv' := [(4, .int u11), (3, .int y5), (7, .int u11), (6, .int u6), (5, .int y5), (0, .ref aM), (1, .int x1)]) hx hb dX8_generous_131 hl (by decide) rfl (fun ls hl => ?_)
                refine lv_iinc (v := y5 + 1) (lv' := [(5, .int (y5 + 1)), (4, .int u11), (3, .int y5), (7, .int u11), (6, .int u6), (0, .ref aM), (1, .int x1)]) hx hb dX8_generous_133 hl (k := 4) rfl rfl (by decide) rfl (fun ls hl => ?_)
                refine lv_goto (tgt := 44) hx hb dX8_generous_136 (by decide) ?_
                exact ih44 y5 u11 (y5 + 1) u8.1 u8.2.1 u8.2.2.1 u8.2.2.2.1 u8.2.2.2.2.1 u8.2.2.2.2.2.1 u9 u8.2.2.2.2.2.2.2.1 u8.2.2.2.2.2.2.2.2.1 u8.2.2.2.2.2.2.2.2.2.1 u8.2.2.2.2.2.2.2.2.2.2.1 u8.2.2.2.2.2.2.2.2.2.2.2.1 u8.2.2.2.2.2.2.2.2.2.2.2.2 cM_gotNow cM_found _ _ _ hP hD hS (lv_sub hl [2, 1, 0, 5, 6] rfl) h
      exact lp44 FU (0 : Int32) (-1 : Int32) (0 : Int32) u4.1 u4.2.1 u4.2.2.1 u4.2.2.2.1 u4.2.2.2.2.1 u4.2.2.2.2.2.1 u4.2.2.2.2.2.2.1 u4.2.2.2.2.2.2.2.1 u4.2.2.2.2.2.2.2.2.1 u4.2.2.2.2.2.2.2.2.2.1 u4.2.2.2.2.2.2.2.2.2.2.1 u4.2.2.2.2.2.2.2.2.2.2.2.1 u4.2.2.2.2.2.2.2.2.2.2.2.2.1 u4.2.2.2.2.2.2.2.2.2.2.2.2.2 cM_found _ _ _ hP hD hS (lv_sub hl [2, 1, 0, 4, 5] rfl) h
    · have h := br_pos c3 h
      refine lv_aload_n hx hb dX8_generous_25 rfl (lv_at hl 1 rfl) ?_
      refine lv_iconst (v := 3) hx hb dX8_generous_26 (by decide) ?_
      obtain ⟨u15, hu15, h⟩ := bd_some h
      refine cl_Vi (rest := []) F hK hP hD hS hA hl (t_X8_finds l D cyI cyJ cyZ cyB cyO aM aM_found aM_d aM_e aM_f aM_kept aM_tape aM_came aM_got aM_held aM_off aM_comesUp aM_comesDown aM_path aM_gets aM_gotNow aM_bitsOf aM_sizeOf aM_number aM_passing vM_isKept vM_taped vM_leaked vM_keptAll vM_offAll vM_up vM_down vM_sharesUp vM_sharesDown vM_onUp vM_onDown vM_great vM_triedOff vM_triedLeaked vM_triedKept vM_fitting vM_firstSet vM_inAll vM_inAny vM_at vM_sort vM_from vM_value vM_fault cM_found (3 : Int32) u15 hu15) (cwV 1 hts gX8_generous_X8_finds rfl rfl rfl (by decide +kernel) ⟨Nat.le_of_ble_eq_true rfl, Nat.le_of_ble_eq_true rfl⟩) 0 [0, 9] [1, 0, 0, 0, 0, 0, 0, 0, 0, 2] [] (w_X8_generous cyI cyJ cyZ cyB cyO aM aM_d aM_f aM_came aM_got aM_held aM_off aM_gets aM_gotNow aM_found aM_e aM_kept aM_tape aM_comesUp aM_comesDown aM_path aM_bitsOf aM_sizeOf aM_number aM_passing vM_isKept vM_taped vM_leaked vM_keptAll vM_offAll vM_up vM_down vM_sharesUp vM_sharesDown vM_onUp vM_onDown vM_great vM_triedOff vM_triedLeaked vM_triedKept vM_fitting vM_firstSet vM_inAll vM_inAny vM_at vM_sort vM_from vM_value vM_fault cM_d cM_f cM_came cM_got cM_held cM_off cM_gets cM_gotNow u15.2) rfl rfl rfl rfl rfl (by decide +kernel) rfl rfl (Nat.le_of_ble_eq_true rfl) ⟨Nat.zero_le _, Nat.zero_le _⟩ dX8_generous_27 (fun H locs hP hD hS => ?_)
      obtain rfl := Option.some.inj h
      exact hret _ _ _ _ _ hP hD hS dX8_generous_30 rfl rfl
  · have h := br_neg c2 h
    refine lv_aload_n hx hb dX8_generous_10 rfl (lv_at hl 1 rfl) ?_
    refine lv_iload_n hx hb dX8_generous_11 rfl (lv_at hl 0 rfl) ?_
    obtain ⟨u16, hu16, h⟩ := bd_some h
    refine cl_Vi (rest := []) F hK hP hD hS hA hl (t_X8_finds l D cyI cyJ cyZ cyB cyO aM aM_found aM_d aM_e aM_f aM_kept aM_tape aM_came aM_got aM_held aM_off aM_comesUp aM_comesDown aM_path aM_gets aM_gotNow aM_bitsOf aM_sizeOf aM_number aM_passing vM_isKept vM_taped vM_leaked vM_keptAll vM_offAll vM_up vM_down vM_sharesUp vM_sharesDown vM_onUp vM_onDown vM_great vM_triedOff vM_triedLeaked vM_triedKept vM_fitting vM_firstSet vM_inAll vM_inAny vM_at vM_sort vM_from vM_value vM_fault cM_found u1 u16 hu16) (cwV 1 hts gX8_generous_X8_finds rfl rfl rfl (by decide +kernel) ⟨Nat.le_of_ble_eq_true rfl, Nat.le_of_ble_eq_true rfl⟩) 0 [0, 9] [1, 0, 0, 0, 0, 0, 0, 0, 0, 2] [] (w_X8_generous cyI cyJ cyZ cyB cyO aM aM_d aM_f aM_came aM_got aM_held aM_off aM_gets aM_gotNow aM_found aM_e aM_kept aM_tape aM_comesUp aM_comesDown aM_path aM_bitsOf aM_sizeOf aM_number aM_passing vM_isKept vM_taped vM_leaked vM_keptAll vM_offAll vM_up vM_down vM_sharesUp vM_sharesDown vM_onUp vM_onDown vM_great vM_triedOff vM_triedLeaked vM_triedKept vM_fitting vM_firstSet vM_inAll vM_inAny vM_at vM_sort vM_from vM_value vM_fault cM_d cM_f cM_came cM_got cM_held cM_off cM_gets cM_gotNow u16.2) rfl rfl rfl rfl rfl (by decide +kernel) rfl rfl (Nat.le_of_ble_eq_true rfl) ⟨Nat.zero_le _, Nat.zero_le _⟩ dX8_generous_12 (fun H locs hP hD hS => ?_)
    obtain rfl := Option.some.inj h
    exact hret _ _ _ _ _ hP hD hS dX8_generous_15 rfl rfl
/-! ===== X8_findChips ===== -/
def w_X8_findChips (cyI cyJ cyZ cyB cyO : ClassId) (aM aM_d aM_e aM_came aM_got aM_held aM_off aM_sizeOf aM_number aM_f aM_kept aM_found aM_tape aM_comesUp aM_comesDown aM_path aM_gets aM_gotNow aM_bitsOf aM_passing : Nat) (vM_isKept : Int32) (vM_taped : Int32) (vM_leaked : Int32) (vM_keptAll : Int32) (vM_offAll : Int32) (vM_up : Int64) (vM_down : Int64) (vM_sharesUp : Int64) (vM_sharesDown : Int64) (vM_onUp : Int64) (vM_onDown : Int64) (vM_great : Int32) (vM_triedOff : Int32) (vM_triedLeaked : Int32) (vM_triedKept : Int32) (vM_fitting : Int32) (vM_firstSet : Int32) (vM_inAll : Int32) (vM_inAny : Int32) (vM_at : Int32) (vM_sort : Int32) (vM_from : Int32) (vM_value : Int64) (vM_fault : Int32) (cM_d : Nat → Int32) (cM_e : Nat → Int32) (cM_came : Nat → Int32) (cM_got : Nat → Int32) (cM_held : Nat → Int32) (cM_off : Nat → Int32) (cM_sizeOf : Nat → Int32) (cM_number : Nat → Int32) : va_W := [(aM, .inr (7, [.ref aM_d, .ref aM_e, .ref aM_f, .ref aM_kept, .int vM_isKept, .ref aM_found, .ref aM_tape, .int vM_taped, .ref aM_came, .ref aM_got, .ref aM_held, .ref aM_off, .int vM_leaked, .int vM_keptAll, .int vM_offAll, .ref aM_comesUp, .ref aM_comesDown, .long vM_up, .long vM_down, .long vM_sharesUp, .long vM_sharesDown, .long vM_onUp, .long vM_onDown, .int vM_great, .ref aM_path, .ref aM_gets, .int vM_triedOff, .int vM_triedLeaked, .int vM_triedKept, .ref aM_gotNow, .int vM_fitting, .int vM_firstSet, .int vM_inAll, .int vM_inAny, .int vM_at, .int vM_sort, .int vM_from, .long vM_value, .int vM_fault, .ref aM_bitsOf, .ref aM_sizeOf, .ref aM_number, .ref aM_passing])), (aM_d, .inl (cyI, 64, .inl cM_d)), (aM_e, .inl (cyI, 64, .inl cM_e)), (aM_came, .inl (cyI, 10, .inl cM_came)), (aM_got, .inl (cyI, 10, .inl cM_got)), (aM_held, .inl (cyI, 10, .inl cM_held)), (aM_off, .inl (cyI, 10, .inl cM_off)), (aM_sizeOf, .inl (cyI, 4, .inl cM_sizeOf)), (aM_number, .inl (cyI, 160, .inl cM_number))]
set_option maxHeartbeats 4000000 in
set_option maxRecDepth 100000 in
theorem t_X8_findChips (l : Launch) (D : va_G) (cyI cyJ cyZ cyB cyO : ClassId) (aM aM_d aM_e aM_came aM_got aM_held aM_off aM_sizeOf aM_number aM_f aM_kept aM_found aM_tape aM_comesUp aM_comesDown aM_path aM_gets aM_gotNow aM_bitsOf aM_passing : Nat) (vM_isKept : Int32) (vM_taped : Int32) (vM_leaked : Int32) (vM_keptAll : Int32) (vM_offAll : Int32) (vM_up : Int64) (vM_down : Int64) (vM_sharesUp : Int64) (vM_sharesDown : Int64) (vM_onUp : Int64) (vM_onDown : Int64) (vM_great : Int32) (vM_triedOff : Int32) (vM_triedLeaked : Int32) (vM_triedKept : Int32) (vM_fitting : Int32) (vM_firstSet : Int32) (vM_inAll : Int32) (vM_inAny : Int32) (vM_at : Int32) (vM_sort : Int32) (vM_from : Int32) (vM_value : Int64) (vM_fault : Int32) (cM_d : Nat → Int32) (cM_e : Nat → Int32) (cM_came : Nat → Int32) (cM_got : Nat → Int32) (cM_held : Nat → Int32) (cM_off : Nat → Int32) (cM_sizeOf : Nat → Int32) (cM_number : Nat → Int32) (x1 : Int32) (out : Int32 × Int32 × Int32 × Int32 × Int32 × Int32 × Int32 × (Nat → Int32) × (Nat → Int32) × (Nat → Int32) × (Nat → Int32) × (Nat → Int32) × (Nat → Int32)) (h : f_X8_findChips x1 vM_leaked vM_keptAll vM_offAll vM_fitting vM_firstSet vM_inAll vM_inAny cM_d cM_e cM_came cM_got cM_held cM_off cM_sizeOf cM_number = some out) : Mv l yX8_findChips wsX8_findChips ({ frames := 3, cells := 0, slots := 0, locals := 74 } : Room) D (tyA cyI cyJ cyZ cyB cyO) [.ref aM, .int x1] (w_X8_findChips cyI cyJ cyZ cyB cyO aM aM_d aM_e aM_came aM_got aM_held aM_off aM_sizeOf aM_number aM_f aM_kept aM_found aM_tape aM_comesUp aM_comesDown aM_path aM_gets aM_gotNow aM_bitsOf aM_passing vM_isKept vM_taped vM_leaked vM_keptAll vM_offAll vM_up vM_down vM_sharesUp vM_sharesDown vM_onUp vM_onDown vM_great vM_triedOff vM_triedLeaked vM_triedKept vM_fitting vM_firstSet vM_inAll vM_inAny vM_at vM_sort vM_from vM_value vM_fault cM_d cM_e cM_came cM_got cM_held cM_off cM_sizeOf cM_number) (w_X8_findChips cyI cyJ cyZ cyB cyO aM aM_d aM_e aM_came aM_got aM_held aM_off aM_sizeOf aM_number aM_f aM_kept aM_found aM_tape aM_comesUp aM_comesDown aM_path aM_gets aM_gotNow aM_bitsOf aM_passing vM_isKept vM_taped out.1 out.2.1 out.2.2.1 vM_up vM_down vM_sharesUp vM_sharesDown vM_onUp vM_onDown vM_great vM_triedOff vM_triedLeaked vM_triedKept out.2.2.2.1 out.2.2.2.2.1 out.2.2.2.2.2.1 out.2.2.2.2.2.2.1 vM_at vM_sort vM_from vM_value vM_fault out.2.2.2.2.2.2.2.1 out.2.2.2.2.2.2.2.2.1 out.2.2.2.2.2.2.2.2.2.1 out.2.2.2.2.2.2.2.2.2.2.1 out.2.2.2.2.2.2.2.2.2.2.2.1 out.2.2.2.2.2.2.2.2.2.2.2.2 cM_sizeOf cM_number) := by
  refine Mv.mk (cc := cX8_findChips) (maxL := 5) (own := RX8) (by decide) rfl rfl (Nat.le_of_ble_eq_true rfl) ?_
  intro p e s m args below meth c A Q F hK hP hD hA hret ls hl
  obtain ⟨hx, hb, hml, hown, hts⟩ := id F
  have hS : va_S A s.heap s.heap [] := va_S.rf
  have hl : lv_has ls 5 [(0, .ref aM), (1, .int x1)] := hl
  have in_X8 : ∀ w ∈ wsX80, w ∈ wsX8_findChips := by decide +kernel
  have q1 := hts (Cond.fieldLink RX8 7 "ThirdFountainModel" "d" "[I") (List.mem_of_getElem? (i := 1) rfl)
  have q2 := hts (Cond.fieldLink RX8 13 "ThirdFountainModel" "e" "[I") (List.mem_of_getElem? (i := 2) rfl)
  have q10 := hts (Cond.methodLink RX8 189 yX8_copies) (List.mem_of_getElem? (i := 10) rfl)
  have q3 := hts (Cond.fieldLink RX8 249 "ThirdFountainModel" "fitting" "I") (List.mem_of_getElem? (i := 3) rfl)
  have q4 := hts (Cond.fieldLink RX8 252 "ThirdFountainModel" "firstSet" "I") (List.mem_of_getElem? (i := 4) rfl)
  have q5 := hts (Cond.fieldLink RX8 255 "ThirdFountainModel" "inAll" "I") (List.mem_of_getElem? (i := 5) rfl)
  have q6 := hts (Cond.fieldLink RX8 258 "ThirdFountainModel" "inAny" "I") (List.mem_of_getElem? (i := 6) rfl)
  have q18 := hts (Cond.methodLink RX8 102 yX8_look) (List.mem_of_getElem? (i := 18) rfl)
  have q7 := hts (Cond.fieldLink RX8 60 "ThirdFountainModel" "sizeOf" "[I") (List.mem_of_getElem? (i := 7) rfl)
  have q8 := hts (Cond.fieldLink RX8 32 "ThirdFountainModel" "got" "[I") (List.mem_of_getElem? (i := 8) rfl)
  have q9 := hts (Cond.fieldLink RX8 63 "ThirdFountainModel" "number" "[I") (List.mem_of_getElem? (i := 9) rfl)
  have q14 := hts (Cond.methodLink RX8 105 yX8_sets) (List.mem_of_getElem? (i := 14) rfl)
  unfold f_X8_findChips at h
  refine lv_aload_n hx hb dX8_findChips_0 rfl (lv_at hl 0 rfl) ?_
  refine va_get (D := D) (ci := 7) (v := .ref aM_d) (C := RX8) (T := TX8) (N := 43) hx hb hts in_X8 hown hK hP 0 rfl rfl 0 (by decide) q1 (fun _ h9 => h9) rfl dX8_findChips_1 ?_
  refine lv_aload_n hx hb dX8_findChips_4 rfl (lv_at hl 0 rfl) ?_
  refine va_get (D := D) (ci := 7) (v := .ref aM_e) (C := RX8) (T := TX8) (N := 43) hx hb hts in_X8 hown hK hP 0 rfl rfl 1 (by decide) q2 (fun _ h9 => h9) rfl dX8_findChips_5 ?_
  obtain ⟨u1, hu1, h⟩ := bd_some h
  refine cl_Sv (rest := []) F hK hP hD hS hA hl (t_X8_copies l D cyI cyJ cyZ cyB cyO aM_d aM_e cM_d cM_e u1 hu1) (va_cwS 2 hts gX8_findChips_X8_copies rfl rfl rfl (by decide +kernel) ⟨Nat.le_of_ble_eq_true rfl, Nat.le_of_ble_eq_true rfl⟩) [1, 2] [0, 1, 2, 0, 0, 0, 0, 0, 0] [] (w_X8_findChips cyI cyJ cyZ cyB cyO aM aM_d aM_e aM_came aM_got aM_held aM_off aM_sizeOf aM_number aM_f aM_kept aM_found aM_tape aM_comesUp aM_comesDown aM_path aM_gets aM_gotNow aM_bitsOf aM_passing vM_isKept vM_taped vM_leaked vM_keptAll vM_offAll vM_up vM_down vM_sharesUp vM_sharesDown vM_onUp vM_onDown vM_great vM_triedOff vM_triedLeaked vM_triedKept vM_fitting vM_firstSet vM_inAll vM_inAny vM_at vM_sort vM_from vM_value vM_fault cM_d u1 cM_came cM_got cM_held cM_off cM_sizeOf cM_number) rfl rfl rfl (by decide +kernel) rfl rfl (Nat.le_of_ble_eq_true rfl) ⟨Nat.zero_le _, Nat.zero_le _⟩ dX8_findChips_8 (fun H locs hP hD hS => ?_)
  refine lv_aload_n hx hb dX8_findChips_11 rfl (lv_at hl 0 rfl) ?_
  refine lv_iconst (v := 0) hx hb dX8_findChips_12 (by decide) ?_
  refine va_put (D := D) (ci := 7) (v := .int (0 : Int32)) (ty := .int) (C := RX8) (T := TX8) (N := 43) hx hb hts in_X8 tyX8 tyX8_ok nmX8 hown hK hP hD hS 0 rfl rfl 30 (by decide) q3 (fun _ h9 => h9) rfl (by decide +kernel) rfl rfl (Nat.le_of_ble_eq_true rfl) dX8_findChips_13 (fun H locs hP hD hS => ?_)
  have hP : va_P D vwCl (w_X8_findChips cyI cyJ cyZ cyB cyO aM aM_d aM_e aM_came aM_got aM_held aM_off aM_sizeOf aM_number aM_f aM_kept aM_found aM_tape aM_comesUp aM_comesDown aM_path aM_gets aM_gotNow aM_bitsOf aM_passing vM_isKept vM_taped vM_leaked vM_keptAll vM_offAll vM_up vM_down vM_sharesUp vM_sharesDown vM_onUp vM_onDown vM_great vM_triedOff vM_triedLeaked vM_triedKept (0 : Int32) vM_firstSet vM_inAll vM_inAny vM_at vM_sort vM_from vM_value vM_fault cM_d u1 cM_came cM_got cM_held cM_off cM_sizeOf cM_number) H := hP
  have hD : va_D A (w_X8_findChips cyI cyJ cyZ cyB cyO aM aM_d aM_e aM_came aM_got aM_held aM_off aM_sizeOf aM_number aM_f aM_kept aM_found aM_tape aM_comesUp aM_comesDown aM_path aM_gets aM_gotNow aM_bitsOf aM_passing vM_isKept vM_taped vM_leaked vM_keptAll vM_offAll vM_up vM_down vM_sharesUp vM_sharesDown vM_onUp vM_onDown vM_great vM_triedOff vM_triedLeaked vM_triedKept (0 : Int32) vM_firstSet vM_inAll vM_inAny vM_at vM_sort vM_from vM_value vM_fault cM_d u1 cM_came cM_got cM_held cM_off cM_sizeOf cM_number) := hD
  refine lv_aload_n hx hb dX8_findChips_16 rfl (lv_at hl 0 rfl) ?_
  refine lv_iconst (v := 0) hx hb dX8_findChips_17 (by decide) ?_
  refine va_put (D := D) (ci := 7) (v := .int (0 : Int32)) (ty := .int) (C := RX8) (T := TX8) (N := 43) hx hb hts in_X8 tyX8 tyX8_ok nmX8 hown hK hP hD hS 0 rfl rfl 31 (by decide) q4 (fun _ h9 => h9) rfl (by decide +kernel) rfl rfl (Nat.le_of_ble_eq_true rfl) dX8_findChips_18 (fun H locs hP hD hS => ?_)
  have hP : va_P D vwCl (w_X8_findChips cyI cyJ cyZ cyB cyO aM aM_d aM_e aM_came aM_got aM_held aM_off aM_sizeOf aM_number aM_f aM_kept aM_found aM_tape aM_comesUp aM_comesDown aM_path aM_gets aM_gotNow aM_bitsOf aM_passing vM_isKept vM_taped vM_leaked vM_keptAll vM_offAll vM_up vM_down vM_sharesUp vM_sharesDown vM_onUp vM_onDown vM_great vM_triedOff vM_triedLeaked vM_triedKept (0 : Int32) (0 : Int32) vM_inAll vM_inAny vM_at vM_sort vM_from vM_value vM_fault cM_d u1 cM_came cM_got cM_held cM_off cM_sizeOf cM_number) H := hP
  have hD : va_D A (w_X8_findChips cyI cyJ cyZ cyB cyO aM aM_d aM_e aM_came aM_got aM_held aM_off aM_sizeOf aM_number aM_f aM_kept aM_found aM_tape aM_comesUp aM_comesDown aM_path aM_gets aM_gotNow aM_bitsOf aM_passing vM_isKept vM_taped vM_leaked vM_keptAll vM_offAll vM_up vM_down vM_sharesUp vM_sharesDown vM_onUp vM_onDown vM_great vM_triedOff vM_triedLeaked vM_triedKept (0 : Int32) (0 : Int32) vM_inAll vM_inAny vM_at vM_sort vM_from vM_value vM_fault cM_d u1 cM_came cM_got cM_held cM_off cM_sizeOf cM_number) := hD
  refine lv_aload_n hx hb dX8_findChips_21 rfl (lv_at hl 0 rfl) ?_
  refine lv_iconst (v := 1) hx hb dX8_findChips_22 (by decide) ?_
  refine lv_aload_n hx hb dX8_findChips_23 rfl (lv_at hl 0 rfl) ?_
  refine va_get (D := D) (ci := 7) (v := .ref aM_d) (C := RX8) (T := TX8) (N := 43) hx hb hts in_X8 hown hK hP 0 rfl rfl 0 (by decide) q1 (fun _ h9 => h9) rfl dX8_findChips_24 ?_
  refine lv_iconst (v := 0) hx hb dX8_findChips_27 (by decide) ?_
  refine va_iald hx hb hK hP 1 0 rfl rfl (by unfold vp_in; decide) dX8_findChips_28 ?_
  refine lv_ishl hx hb dX8_findChips_29 ?_
  refine lv_iconst (v := 1) hx hb dX8_findChips_30 (by decide) ?_
  refine lv_isub hx hb dX8_findChips_31 ?_
  refine va_put (D := D) (ci := 7) (v := .int (((1 : Int32) <<< ((cM_d (0 : Int32).toNatClampNeg) &&& 31)) - (1 : Int32))) (ty := .int) (C := RX8) (T := TX8) (N := 43) hx hb hts in_X8 tyX8 tyX8_ok nmX8 hown hK hP hD hS 0 rfl rfl 32 (by decide) q5 (fun _ h9 => h9) rfl (by decide +kernel) rfl rfl (Nat.le_of_ble_eq_true rfl) dX8_findChips_32 (fun H locs hP hD hS => ?_)
  have hP : va_P D vwCl (w_X8_findChips cyI cyJ cyZ cyB cyO aM aM_d aM_e aM_came aM_got aM_held aM_off aM_sizeOf aM_number aM_f aM_kept aM_found aM_tape aM_comesUp aM_comesDown aM_path aM_gets aM_gotNow aM_bitsOf aM_passing vM_isKept vM_taped vM_leaked vM_keptAll vM_offAll vM_up vM_down vM_sharesUp vM_sharesDown vM_onUp vM_onDown vM_great vM_triedOff vM_triedLeaked vM_triedKept (0 : Int32) (0 : Int32) (((1 : Int32) <<< ((cM_d (0 : Int32).toNatClampNeg) &&& 31)) - (1 : Int32)) vM_inAny vM_at vM_sort vM_from vM_value vM_fault cM_d u1 cM_came cM_got cM_held cM_off cM_sizeOf cM_number) H := hP
  have hD : va_D A (w_X8_findChips cyI cyJ cyZ cyB cyO aM aM_d aM_e aM_came aM_got aM_held aM_off aM_sizeOf aM_number aM_f aM_kept aM_found aM_tape aM_comesUp aM_comesDown aM_path aM_gets aM_gotNow aM_bitsOf aM_passing vM_isKept vM_taped vM_leaked vM_keptAll vM_offAll vM_up vM_down vM_sharesUp vM_sharesDown vM_onUp vM_onDown vM_great vM_triedOff vM_triedLeaked vM_triedKept (0 : Int32) (0 : Int32) (((1 : Int32) <<< ((cM_d (0 : Int32).toNatClampNeg) &&& 31)) - (1 : Int32)) vM_inAny vM_at vM_sort vM_from vM_value vM_fault cM_d u1 cM_came cM_got cM_held cM_off cM_sizeOf cM_number) := hD
  refine lv_aload_n hx hb dX8_findChips_35 rfl (lv_at hl 0 rfl) ?_
  refine lv_iconst (v := 0) hx hb dX8_findChips_36 (by decide) ?_
  refine va_put (D := D) (ci := 7) (v := .int (0 : Int32)) (ty := .int) (C := RX8) (T := TX8) (N := 43) hx hb hts in_X8 tyX8 tyX8_ok nmX8 hown hK hP hD hS 0 rfl rfl 33 (by decide) q6 (fun _ h9 => h9) rfl (by decide +kernel) rfl rfl (Nat.le_of_ble_eq_true rfl) dX8_findChips_37 (fun H locs hP hD hS => ?_)
  have hP : va_P D vwCl (w_X8_findChips cyI cyJ cyZ cyB cyO aM aM_d aM_e aM_came aM_got aM_held aM_off aM_sizeOf aM_number aM_f aM_kept aM_found aM_tape aM_comesUp aM_comesDown aM_path aM_gets aM_gotNow aM_bitsOf aM_passing vM_isKept vM_taped vM_leaked vM_keptAll vM_offAll vM_up vM_down vM_sharesUp vM_sharesDown vM_onUp vM_onDown vM_great vM_triedOff vM_triedLeaked vM_triedKept (0 : Int32) (0 : Int32) (((1 : Int32) <<< ((cM_d (0 : Int32).toNatClampNeg) &&& 31)) - (1 : Int32)) (0 : Int32) vM_at vM_sort vM_from vM_value vM_fault cM_d u1 cM_came cM_got cM_held cM_off cM_sizeOf cM_number) H := hP
  have hD : va_D A (w_X8_findChips cyI cyJ cyZ cyB cyO aM aM_d aM_e aM_came aM_got aM_held aM_off aM_sizeOf aM_number aM_f aM_kept aM_found aM_tape aM_comesUp aM_comesDown aM_path aM_gets aM_gotNow aM_bitsOf aM_passing vM_isKept vM_taped vM_leaked vM_keptAll vM_offAll vM_up vM_down vM_sharesUp vM_sharesDown vM_onUp vM_onDown vM_great vM_triedOff vM_triedLeaked vM_triedKept (0 : Int32) (0 : Int32) (((1 : Int32) <<< ((cM_d (0 : Int32).toNatClampNeg) &&& 31)) - (1 : Int32)) (0 : Int32) vM_at vM_sort vM_from vM_value vM_fault cM_d u1 cM_came cM_got cM_held cM_off cM_sizeOf cM_number) := hD
  refine lv_iconst (v := 0) hx hb dX8_findChips_40 (by decide) ?_
  refine lv_istore_n (lv' := [(2, .int (0 : Int32)), (0, .ref aM), (1, .int x1)]) hx hb dX8_findChips_41 rfl hl (by decide) rfl (fun ls hl => ?_)
  have lp42 : ∀ (k42 : Nat) (y2 : Int32) (vM_leaked : Int32) (vM_keptAll : Int32) (vM_offAll : Int32) (vM_fitting : Int32) (vM_firstSet : Int32) (vM_inAll : Int32) (vM_inAny : Int32) (cM_d : Nat → Int32) (cM_e : Nat → Int32) (cM_came : Nat → Int32) (cM_got : Nat → Int32) (cM_held : Nat → Int32) (cM_off : Nat → Int32) (H : Heap) (locs : List Loc) (ls : Array Slot), va_P D vwCl (w_X8_findChips cyI cyJ cyZ cyB cyO aM aM_d aM_e aM_came aM_got aM_held aM_off aM_sizeOf aM_number aM_f aM_kept aM_found aM_tape aM_comesUp aM_comesDown aM_path aM_gets aM_gotNow aM_bitsOf aM_passing vM_isKept vM_taped vM_leaked vM_keptAll vM_offAll vM_up vM_down vM_sharesUp vM_sharesDown vM_onUp vM_onDown vM_great vM_triedOff vM_triedLeaked vM_triedKept vM_fitting vM_firstSet vM_inAll vM_inAny vM_at vM_sort vM_from vM_value vM_fault cM_d cM_e cM_came cM_got cM_held cM_off cM_sizeOf cM_number) H → va_D A (w_X8_findChips cyI cyJ cyZ cyB cyO aM aM_d aM_e aM_came aM_got aM_held aM_off aM_sizeOf aM_number aM_f aM_kept aM_found aM_tape aM_comesUp aM_comesDown aM_path aM_gets aM_gotNow aM_bitsOf aM_passing vM_isKept vM_taped vM_leaked vM_keptAll vM_offAll vM_up vM_down vM_sharesUp vM_sharesDown vM_onUp vM_onDown vM_great vM_triedOff vM_triedLeaked vM_triedKept vM_fitting vM_firstSet vM_inAll vM_inAny vM_at vM_sort vM_from vM_value vM_fault cM_d cM_e cM_came cM_got cM_held cM_off cM_sizeOf cM_number) → va_S A s.heap H locs → lv_has ls 5 [(2, .int y2), (0, .ref aM), (1, .int x1)] → (f_X8_findChips_L42 x1 cM_sizeOf cM_number k42) (y2, vM_leaked, vM_keptAll, vM_offAll, vM_fitting, vM_firstSet, vM_inAll, vM_inAny, cM_d, cM_e, cM_came, cM_got, cM_held, cM_off) = some out → W p l e ({ frames := 3, cells := 0, slots := 0, locals := 74 } : Room) s m args below meth c H locs 0 0 Q (F0 m 42 ls []) := by
    intro k42
    induction k42 with
    | zero => intro y2 vM_leaked vM_keptAll vM_offAll vM_fitting vM_firstSet vM_inAll vM_inAny cM_d cM_e cM_came cM_got cM_held cM_off H locs ls hP hD hS hl h; cases h
    | succ k42 ih42 =>
      intro y2 vM_leaked vM_keptAll vM_offAll vM_fitting vM_firstSet vM_inAll vM_inAny cM_d cM_e cM_came cM_got cM_held cM_off H locs ls hP hD hS hl h
      have h : f_X8_findChips_L42_b x1 cM_sizeOf cM_number (f_X8_findChips_L42 x1 cM_sizeOf cM_number k42) y2 vM_leaked vM_keptAll vM_offAll vM_fitting vM_firstSet vM_inAll vM_inAny cM_d cM_e cM_came cM_got cM_held cM_off = some out := h
      unfold f_X8_findChips_L42_b at h
      refine lv_iload_n hx hb dX8_findChips_42 rfl (lv_at hl 0 rfl) ?_
      refine lv_iconst (v := 1) hx hb dX8_findChips_43 (by decide) ?_
      refine lv_aload_n hx hb dX8_findChips_44 rfl (lv_at hl 1 rfl) ?_
      refine va_get (D := D) (ci := 7) (v := .ref aM_d) (C := RX8) (T := TX8) (N := 43) hx hb hts in_X8 hown hK hP 0 rfl rfl 0 (by decide) q1 (fun _ h9 => h9) rfl dX8_findChips_45 ?_
      refine lv_iconst (v := 0) hx hb dX8_findChips_48 (by decide) ?_
      refine va_iald hx hb hK hP 1 0 rfl rfl (by unfold vp_in; decide) dX8_findChips_49 ?_
      refine lv_ishl hx hb dX8_findChips_50 ?_
      have j211 : ∀ (vM_leaked : Int32) (vM_keptAll : Int32) (vM_offAll : Int32) (vM_fitting : Int32) (vM_firstSet : Int32) (vM_inAll : Int32) (vM_inAny : Int32) (cM_d : Nat → Int32) (cM_e : Nat → Int32) (cM_came : Nat → Int32) (cM_got : Nat → Int32) (cM_held : Nat → Int32) (cM_off : Nat → Int32) (H : Heap) (locs : List Loc) (ls : Array Slot), va_P D vwCl (w_X8_findChips cyI cyJ cyZ cyB cyO aM aM_d aM_e aM_came aM_got aM_held aM_off aM_sizeOf aM_number aM_f aM_kept aM_found aM_tape aM_comesUp aM_comesDown aM_path aM_gets aM_gotNow aM_bitsOf aM_passing vM_isKept vM_taped vM_leaked vM_keptAll vM_offAll vM_up vM_down vM_sharesUp vM_sharesDown vM_onUp vM_onDown vM_great vM_triedOff vM_triedLeaked vM_triedKept vM_fitting vM_firstSet vM_inAll vM_inAny vM_at vM_sort vM_from vM_value vM_fault cM_d cM_e cM_came cM_got cM_held cM_off cM_sizeOf cM_number) H → va_D A (w_X8_findChips cyI cyJ cyZ cyB cyO aM aM_d aM_e aM_came aM_got aM_held aM_off aM_sizeOf aM_number aM_f aM_kept aM_found aM_tape aM_comesUp aM_comesDown aM_path aM_gets aM_gotNow aM_bitsOf aM_passing vM_isKept vM_taped vM_leaked vM_keptAll vM_offAll vM_up vM_down vM_sharesUp vM_sharesDown vM_onUp vM_onDown vM_great vM_triedOff vM_triedLeaked vM_triedKept vM_fitting vM_firstSet vM_inAll vM_inAny vM_at vM_sort vM_from vM_value vM_fault cM_d cM_e cM_came cM_got cM_held cM_off cM_sizeOf cM_number) → va_S A s.heap H locs → lv_has ls 5 [(0, .ref aM)] → f_X8_findChips_J211 x1 cM_sizeOf cM_number vM_leaked vM_keptAll vM_offAll vM_fitting vM_firstSet vM_inAll vM_inAny cM_d cM_e cM_came cM_got cM_held cM_off = some out → W p l e ({ frames := 3, cells := 0, slots := 0, locals := 74 } : Room) s m args below meth c H locs 0 0 Q (F0 m 211 ls []) := by
        intro vM_leaked vM_keptAll vM_offAll vM_fitting vM_firstSet vM_inAll vM_inAny cM_d cM_e cM_came cM_got cM_held cM_off H locs ls hP hD hS hl h
        unfold f_X8_findChips_J211 at h
        refine lv_aload_n hx hb dX8_findChips_211 rfl (lv_at hl 0 rfl) ?_
        refine va_get (D := D) (ci := 7) (v := .ref aM_e) (C := RX8) (T := TX8) (N := 43) hx hb hts in_X8 hown hK hP 0 rfl rfl 1 (by decide) q2 (fun _ h9 => h9) rfl dX8_findChips_212 ?_
        refine lv_aload_n hx hb dX8_findChips_215 rfl (lv_at hl 0 rfl) ?_
        refine va_get (D := D) (ci := 7) (v := .ref aM_d) (C := RX8) (T := TX8) (N := 43) hx hb hts in_X8 hown hK hP 0 rfl rfl 0 (by decide) q1 (fun _ h9 => h9) rfl dX8_findChips_216 ?_
        obtain ⟨u2, hu2, h⟩ := bd_some h
        refine cl_Sv (rest := []) F hK hP hD hS hA hl (t_X8_copies l D cyI cyJ cyZ cyB cyO aM_e aM_d cM_e cM_d u2 hu2) (va_cwS 2 hts gX8_findChips_X8_copies rfl rfl rfl (by decide +kernel) ⟨Nat.le_of_ble_eq_true rfl, Nat.le_of_ble_eq_true rfl⟩) [2, 1] [0, 2, 1, 0, 0, 0, 0, 0, 0] [] (w_X8_findChips cyI cyJ cyZ cyB cyO aM aM_d aM_e aM_came aM_got aM_held aM_off aM_sizeOf aM_number aM_f aM_kept aM_found aM_tape aM_comesUp aM_comesDown aM_path aM_gets aM_gotNow aM_bitsOf aM_passing vM_isKept vM_taped vM_leaked vM_keptAll vM_offAll vM_up vM_down vM_sharesUp vM_sharesDown vM_onUp vM_onDown vM_great vM_triedOff vM_triedLeaked vM_triedKept vM_fitting vM_firstSet vM_inAll vM_inAny vM_at vM_sort vM_from vM_value vM_fault u2 cM_e cM_came cM_got cM_held cM_off cM_sizeOf cM_number) rfl rfl rfl (by decide +kernel) rfl rfl (Nat.le_of_ble_eq_true rfl) ⟨Nat.zero_le _, Nat.zero_le _⟩ dX8_findChips_219 (fun H locs hP hD hS => ?_)
        obtain rfl := Option.some.inj h
        exact hret _ _ _ _ hP hD hS dX8_findChips_222 
      refine lv_icmp_ge (tgt := 211) hx hb dX8_findChips_51 (by decide) (fun c3 => ?_) (fun c3 => ?_)
      · have h := br_pos c3 h
        exact j211 vM_leaked vM_keptAll vM_offAll vM_fitting vM_firstSet vM_inAll vM_inAny cM_d cM_e cM_came cM_got cM_held cM_off _ _ _ hP hD hS (lv_sub hl [1] rfl) h
      · have h := br_neg c3 h
        refine lv_iconst (v := 0) hx hb dX8_findChips_54 (by decide) ?_
        refine lv_istore_n (lv' := [(3, .int (0 : Int32)), (2, .int y2), (0, .ref aM), (1, .int x1)]) hx hb dX8_findChips_55 rfl hl (by decide) rfl (fun ls hl => ?_)
        have lp56 : ∀ (k56 : Nat) (y2 : Int32) (y3 : Int32) (vM_leaked : Int32) (vM_keptAll : Int32) (vM_offAll : Int32) (vM_fitting : Int32) (vM_firstSet : Int32) (vM_inAll : Int32) (vM_inAny : Int32) (cM_d : Nat → Int32) (cM_e : Nat → Int32) (cM_came : Nat → Int32) (cM_got : Nat → Int32) (cM_held : Nat → Int32) (cM_off : Nat → Int32) (H : Heap) (locs : List Loc) (ls : Array Slot), va_P D vwCl (w_X8_findChips cyI cyJ cyZ cyB cyO aM aM_d aM_e aM_came aM_got aM_held aM_off aM_sizeOf aM_number aM_f aM_kept aM_found aM_tape aM_comesUp aM_comesDown aM_path aM_gets aM_gotNow aM_bitsOf aM_passing vM_isKept vM_taped vM_leaked vM_keptAll vM_offAll vM_up vM_down vM_sharesUp vM_sharesDown vM_onUp vM_onDown vM_great vM_triedOff vM_triedLeaked vM_triedKept vM_fitting vM_firstSet vM_inAll vM_inAny vM_at vM_sort vM_from vM_value vM_fault cM_d cM_e cM_came cM_got cM_held cM_off cM_sizeOf cM_number) H → va_D A (w_X8_findChips cyI cyJ cyZ cyB cyO aM aM_d aM_e aM_came aM_got aM_held aM_off aM_sizeOf aM_number aM_f aM_kept aM_found aM_tape aM_comesUp aM_comesDown aM_path aM_gets aM_gotNow aM_bitsOf aM_passing vM_isKept vM_taped vM_leaked vM_keptAll vM_offAll vM_up vM_down vM_sharesUp vM_sharesDown vM_onUp vM_onDown vM_great vM_triedOff vM_triedLeaked vM_triedKept vM_fitting vM_firstSet vM_inAll vM_inAny vM_at vM_sort vM_from vM_value vM_fault cM_d cM_e cM_came cM_got cM_held cM_off cM_sizeOf cM_number) → va_S A s.heap H locs → lv_has ls 5 [(2, .int y2), (3, .int y3), (0, .ref aM), (1, .int x1)] → (f_X8_findChips_L56 x1 cM_sizeOf cM_number (f_X8_findChips_L42 x1 cM_sizeOf cM_number k42) k56) (y2, y3, vM_leaked, vM_keptAll, vM_offAll, vM_fitting, vM_firstSet, vM_inAll, vM_inAny, cM_d, cM_e, cM_came, cM_got, cM_held, cM_off) = some out → W p l e ({ frames := 3, cells := 0, slots := 0, locals := 74 } : Room) s m args below meth c H locs 0 0 Q (F0 m 56 ls []) := by
          intro k56
          induction k56 with
          | zero => intro y2 y3 vM_leaked vM_keptAll vM_offAll vM_fitting vM_firstSet vM_inAll vM_inAny cM_d cM_e cM_came cM_got cM_held cM_off H locs ls hP hD hS hl h; cases h
          | succ k56 ih56 =>
            intro y2 y3 vM_leaked vM_keptAll vM_offAll vM_fitting vM_firstSet vM_inAll vM_inAny cM_d cM_e cM_came cM_got cM_held cM_off H locs ls hP hD hS hl h
            have h : f_X8_findChips_L56_b x1 cM_sizeOf cM_number (f_X8_findChips_L42 x1 cM_sizeOf cM_number k42) (f_X8_findChips_L56 x1 cM_sizeOf cM_number (f_X8_findChips_L42 x1 cM_sizeOf cM_number k42) k56) y2 y3 vM_leaked vM_keptAll vM_offAll vM_fitting vM_firstSet vM_inAll vM_inAny cM_d cM_e cM_came cM_got cM_held cM_off = some out := h
            unfold f_X8_findChips_L56_b at h
            refine lv_iload_n hx hb dX8_findChips_56 rfl (lv_at hl 1 rfl) ?_
            refine lv_aload_n hx hb dX8_findChips_57 rfl (lv_at hl 2 rfl) ?_
            refine va_get (D := D) (ci := 7) (v := .ref aM_d) (C := RX8) (T := TX8) (N := 43) hx hb hts in_X8 hown hK hP 0 rfl rfl 0 (by decide) q1 (fun _ h9 => h9) rfl dX8_findChips_58 ?_
            refine lv_iconst (v := 0) hx hb dX8_findChips_61 (by decide) ?_
            refine va_iald hx hb hK hP 1 0 rfl rfl (by unfold vp_in; decide) dX8_findChips_62 ?_
            have j83 : ∀ (y2 : Int32) (vM_leaked : Int32) (vM_keptAll : Int32) (vM_offAll : Int32) (vM_fitting : Int32) (vM_firstSet : Int32) (vM_inAll : Int32) (vM_inAny : Int32) (cM_d : Nat → Int32) (cM_e : Nat → Int32) (cM_came : Nat → Int32) (cM_got : Nat → Int32) (cM_held : Nat → Int32) (cM_off : Nat → Int32) (H : Heap) (locs : List Loc) (ls : Array Slot), va_P D vwCl (w_X8_findChips cyI cyJ cyZ cyB cyO aM aM_d aM_e aM_came aM_got aM_held aM_off aM_sizeOf aM_number aM_f aM_kept aM_found aM_tape aM_comesUp aM_comesDown aM_path aM_gets aM_gotNow aM_bitsOf aM_passing vM_isKept vM_taped vM_leaked vM_keptAll vM_offAll vM_up vM_down vM_sharesUp vM_sharesDown vM_onUp vM_onDown vM_great vM_triedOff vM_triedLeaked vM_triedKept vM_fitting vM_firstSet vM_inAll vM_inAny vM_at vM_sort vM_from vM_value vM_fault cM_d cM_e cM_came cM_got cM_held cM_off cM_sizeOf cM_number) H → va_D A (w_X8_findChips cyI cyJ cyZ cyB cyO aM aM_d aM_e aM_came aM_got aM_held aM_off aM_sizeOf aM_number aM_f aM_kept aM_found aM_tape aM_comesUp aM_comesDown aM_path aM_gets aM_gotNow aM_bitsOf aM_passing vM_isKept vM_taped vM_leaked vM_keptAll vM_offAll vM_up vM_down vM_sharesUp vM_sharesDown vM_onUp vM_onDown vM_great vM_triedOff vM_triedLeaked vM_triedKept vM_fitting vM_firstSet vM_inAll vM_inAny vM_at vM_sort vM_from vM_value vM_fault cM_d cM_e cM_came cM_got cM_held cM_off cM_sizeOf cM_number) → va_S A s.heap H locs → lv_has ls 5 [(2, .int y2), (0, .ref aM), (1, .int x1)] → f_X8_findChips_J83 x1 cM_sizeOf cM_number (f_X8_findChips_L42 x1 cM_sizeOf cM_number k42) y2 vM_leaked vM_keptAll vM_offAll vM_fitting vM_firstSet vM_inAll vM_inAny cM_d cM_e cM_came cM_got cM_held cM_off = some out → W p l e ({ frames := 3, cells := 0, slots := 0, locals := 74 } : Room) s m args below meth c H locs 0 0 Q (F0 m 83 ls []) := by
              intro y2 vM_leaked vM_keptAll vM_offAll vM_fitting vM_firstSet vM_inAll vM_inAny cM_d cM_e cM_came cM_got cM_held cM_off H locs ls hP hD hS hl h
              unfold f_X8_findChips_J83 at h
              refine lv_aload_n hx hb dX8_findChips_83 rfl (lv_at hl 1 rfl) ?_
              obtain ⟨u4, hu4, h⟩ := bd_some h
              refine cl_Vv (rest := []) F hK hP hD hS hA hl (t_X8_look l D cyI cyJ cyZ cyB cyO aM aM_d aM_came aM_got aM_held aM_off aM_e aM_f aM_kept aM_found aM_tape aM_comesUp aM_comesDown aM_path aM_gets aM_gotNow aM_bitsOf aM_sizeOf aM_number aM_passing vM_isKept vM_taped vM_leaked vM_keptAll vM_offAll vM_up vM_down vM_sharesUp vM_sharesDown vM_onUp vM_onDown vM_great vM_triedOff vM_triedLeaked vM_triedKept vM_fitting vM_firstSet vM_inAll vM_inAny vM_at vM_sort vM_from vM_value vM_fault cM_d cM_came cM_got cM_held cM_off u4 hu4) (cwV 0 hts gX8_findChips_X8_look rfl rfl rfl (by decide +kernel) ⟨Nat.le_of_ble_eq_true rfl, Nat.le_of_ble_eq_true rfl⟩) 0 [0, 1, 3, 4, 5, 6] [1, 2, 0, 3, 4, 5, 6, 0, 0] [] (w_X8_findChips cyI cyJ cyZ cyB cyO aM aM_d aM_e aM_came aM_got aM_held aM_off aM_sizeOf aM_number aM_f aM_kept aM_found aM_tape aM_comesUp aM_comesDown aM_path aM_gets aM_gotNow aM_bitsOf aM_passing vM_isKept vM_taped u4.1 u4.2.1 u4.2.2.1 vM_up vM_down vM_sharesUp vM_sharesDown vM_onUp vM_onDown vM_great vM_triedOff vM_triedLeaked vM_triedKept vM_fitting vM_firstSet vM_inAll vM_inAny vM_at vM_sort vM_from vM_value vM_fault cM_d cM_e u4.2.2.2.1 u4.2.2.2.2.1 u4.2.2.2.2.2.1 u4.2.2.2.2.2.2 cM_sizeOf cM_number) rfl rfl rfl rfl rfl (by decide +kernel) rfl rfl (Nat.le_of_ble_eq_true rfl) ⟨Nat.zero_le _, Nat.zero_le _⟩ dX8_findChips_84 (fun H locs hP hD hS => ?_)
              refine lv_iconst (v := 1) hx hb dX8_findChips_87 (by decide) ?_
              refine lv_istore_n (lv' := [(3, .int (1 : Int32)), (2, .int y2), (0, .ref aM), (1, .int x1)]) hx hb dX8_findChips_88 rfl hl (by decide) rfl (fun ls hl => ?_)
              refine lv_iconst (v := 0) hx hb dX8_findChips_89 (by decide) ?_
              refine lv_istore (lv' := [(4, .int (0 : Int32)), (3, .int (1 : Int32)), (2, .int y2), (0, .ref aM), (1, .int x1)]) hx hb dX8_findChips_90 hl (by decide) rfl (fun ls hl => ?_)
              have lp92 : ∀ (k92 : Nat) (y2 : Int32) (y3 : Int32) (y4 : Int32) (vM_leaked : Int32) (vM_keptAll : Int32) (vM_offAll : Int32) (vM_fitting : Int32) (vM_firstSet : Int32) (vM_inAll : Int32) (vM_inAny : Int32) (cM_d : Nat → Int32) (cM_e : Nat → Int32) (cM_came : Nat → Int32) (cM_got : Nat → Int32) (cM_held : Nat → Int32) (cM_off : Nat → Int32) (H : Heap) (locs : List Loc) (ls : Array Slot), va_P D vwCl (w_X8_findChips cyI cyJ cyZ cyB cyO aM aM_d aM_e aM_came aM_got aM_held aM_off aM_sizeOf aM_number aM_f aM_kept aM_found aM_tape aM_comesUp aM_comesDown aM_path aM_gets aM_gotNow aM_bitsOf aM_passing vM_isKept vM_taped vM_leaked vM_keptAll vM_offAll vM_up vM_down vM_sharesUp vM_sharesDown vM_onUp vM_onDown vM_great vM_triedOff vM_triedLeaked vM_triedKept vM_fitting vM_firstSet vM_inAll vM_inAny vM_at vM_sort vM_from vM_value vM_fault cM_d cM_e cM_came cM_got cM_held cM_off cM_sizeOf cM_number) H → va_D A (w_X8_findChips cyI cyJ cyZ cyB cyO aM aM_d aM_e aM_came aM_got aM_held aM_off aM_sizeOf aM_number aM_f aM_kept aM_found aM_tape aM_comesUp aM_comesDown aM_path aM_gets aM_gotNow aM_bitsOf aM_passing vM_isKept vM_taped vM_leaked vM_keptAll vM_offAll vM_up vM_down vM_sharesUp vM_sharesDown vM_onUp vM_onDown vM_great vM_triedOff vM_triedLeaked vM_triedKept vM_fitting vM_firstSet vM_inAll vM_inAny vM_at vM_sort vM_from vM_value vM_fault cM_d cM_e cM_came cM_got cM_held cM_off cM_sizeOf cM_number) → va_S A s.heap H locs → lv_has ls 5 [(2, .int y2), (3, .int y3), (4, .int y4), (0, .ref aM), (1, .int x1)] → (f_X8_findChips_L92 x1 cM_sizeOf cM_number (f_X8_findChips_L42 x1 cM_sizeOf cM_number k42) k92) (y2, y3, y4, vM_leaked, vM_keptAll, vM_offAll, vM_fitting, vM_firstSet, vM_inAll, vM_inAny, cM_d, cM_e, cM_came, cM_got, cM_held, cM_off) = some out → W p l e ({ frames := 3, cells := 0, slots := 0, locals := 74 } : Room) s m args below meth c H locs 0 0 Q (F0 m 92 ls []) := by
                intro k92
                induction k92 with
                | zero => intro y2 y3 y4 vM_leaked vM_keptAll vM_offAll vM_fitting vM_firstSet vM_inAll vM_inAny cM_d cM_e cM_came cM_got cM_held cM_off H locs ls hP hD hS hl h; cases h
                | succ k92 ih92 =>
                  intro y2 y3 y4 vM_leaked vM_keptAll vM_offAll vM_fitting vM_firstSet vM_inAll vM_inAny cM_d cM_e cM_came cM_got cM_held cM_off H locs ls hP hD hS hl h
                  have h : f_X8_findChips_L92_b x1 cM_sizeOf cM_number (f_X8_findChips_L42 x1 cM_sizeOf cM_number k42) (f_X8_findChips_L92 x1 cM_sizeOf cM_number (f_X8_findChips_L42 x1 cM_sizeOf cM_number k42) k92) y2 y3 y4 vM_leaked vM_keptAll vM_offAll vM_fitting vM_firstSet vM_inAll vM_inAny cM_d cM_e cM_came cM_got cM_held cM_off = some out := h
                  unfold f_X8_findChips_L92_b at h
                  refine lv_iload hx hb dX8_findChips_92 (lv_at hl 2 rfl) ?_
                  refine lv_aload_n hx hb dX8_findChips_94 rfl (lv_at hl 3 rfl) ?_
                  refine va_get (D := D) (ci := 7) (v := .ref aM_d) (C := RX8) (T := TX8) (N := 43) hx hb hts in_X8 hown hK hP 0 rfl rfl 0 (by decide) q1 (fun _ h9 => h9) rfl dX8_findChips_95 ?_
                  refine lv_iconst (v := 0) hx hb dX8_findChips_98 (by decide) ?_
                  refine va_iald hx hb hK hP 1 0 rfl rfl (by unfold vp_in; decide) dX8_findChips_99 ?_
                  have j152 : ∀ (y2 : Int32) (y3 : Int32) (vM_leaked : Int32) (vM_keptAll : Int32) (vM_offAll : Int32) (vM_fitting : Int32) (vM_firstSet : Int32) (vM_inAll : Int32) (vM_inAny : Int32) (cM_d : Nat → Int32) (cM_e : Nat → Int32) (cM_came : Nat → Int32) (cM_got : Nat → Int32) (cM_held : Nat → Int32) (cM_off : Nat → Int32) (H : Heap) (locs : List Loc) (ls : Array Slot), va_P D vwCl (w_X8_findChips cyI cyJ cyZ cyB cyO aM aM_d aM_e aM_came aM_got aM_held aM_off aM_sizeOf aM_number aM_f aM_kept aM_found aM_tape aM_comesUp aM_comesDown aM_path aM_gets aM_gotNow aM_bitsOf aM_passing vM_isKept vM_taped vM_leaked vM_keptAll vM_offAll vM_up vM_down vM_sharesUp vM_sharesDown vM_onUp vM_onDown vM_great vM_triedOff vM_triedLeaked vM_triedKept vM_fitting vM_firstSet vM_inAll vM_inAny vM_at vM_sort vM_from vM_value vM_fault cM_d cM_e cM_came cM_got cM_held cM_off cM_sizeOf cM_number) H → va_D A (w_X8_findChips cyI cyJ cyZ cyB cyO aM aM_d aM_e aM_came aM_got aM_held aM_off aM_sizeOf aM_number aM_f aM_kept aM_found aM_tape aM_comesUp aM_comesDown aM_path aM_gets aM_gotNow aM_bitsOf aM_passing vM_isKept vM_taped vM_leaked vM_keptAll vM_offAll vM_up vM_down vM_sharesUp vM_sharesDown vM_onUp vM_onDown vM_great vM_triedOff vM_triedLeaked vM_triedKept vM_fitting vM_firstSet vM_inAll vM_inAny vM_at vM_sort vM_from vM_value vM_fault cM_d cM_e cM_came cM_got cM_held cM_off cM_sizeOf cM_number) → va_S A s.heap H locs → lv_has ls 5 [(2, .int y2), (3, .int y3), (0, .ref aM), (1, .int x1)] → f_X8_findChips_J152 x1 cM_sizeOf cM_number (f_X8_findChips_L42 x1 cM_sizeOf cM_number k42) y2 y3 vM_leaked vM_keptAll vM_offAll vM_fitting vM_firstSet vM_inAll vM_inAny cM_d cM_e cM_came cM_got cM_held cM_off = some out → W p l e ({ frames := 3, cells := 0, slots := 0, locals := 74 } : Room) s m args below meth c H locs 0 0 Q (F0 m 152 ls []) := by
                    intro y2 y3 vM_leaked vM_keptAll vM_offAll vM_fitting vM_firstSet vM_inAll vM_inAny cM_d cM_e cM_came cM_got cM_held cM_off H locs ls hP hD hS hl h
                    unfold f_X8_findChips_J152 at h
                    refine lv_iload_n hx hb dX8_findChips_152 rfl (lv_at hl 1 rfl) ?_
                    refine lv_if_eq (tgt := 205) hx hb dX8_findChips_153 (by decide) (fun c5 => ?_) (fun c5 => ?_)
                    · have h := br_pos c5 h
                      refine lv_iinc (v := y2 + 1) (lv' := [(2, .int (y2 + 1)), (3, .int y3), (0, .ref aM), (1, .int x1)]) hx hb dX8_findChips_205 hl (k := 0) rfl rfl (by decide) rfl (fun ls hl => ?_)
                      refine lv_goto (tgt := 42) hx hb dX8_findChips_208 (by decide) ?_
                      exact ih42 (y2 + 1) vM_leaked vM_keptAll vM_offAll vM_fitting vM_firstSet vM_inAll vM_inAny cM_d cM_e cM_came cM_got cM_held cM_off _ _ _ hP hD hS (lv_sub hl [0, 2, 3] rfl) h
                    · have h := br_neg c5 h
                      refine lv_aload_n hx hb dX8_findChips_156 rfl (lv_at hl 2 rfl) ?_
                      refine lv_aload_n hx hb dX8_findChips_157 rfl (lv_at hl 2 rfl) ?_
                      refine va_get (D := D) (ci := 7) (v := .int vM_fitting) (C := RX8) (T := TX8) (N := 43) hx hb hts in_X8 hown hK hP 0 rfl rfl 30 (by decide) q3 (fun _ h9 => h9) rfl dX8_findChips_158 ?_
                      have j172 : ∀ (y2 : Int32) (t1 : Int32) (vM_leaked : Int32) (vM_keptAll : Int32) (vM_offAll : Int32) (vM_fitting : Int32) (vM_firstSet : Int32) (vM_inAll : Int32) (vM_inAny : Int32) (cM_d : Nat → Int32) (cM_e : Nat → Int32) (cM_came : Nat → Int32) (cM_got : Nat → Int32) (cM_held : Nat → Int32) (cM_off : Nat → Int32) (H : Heap) (locs : List Loc) (ls : Array Slot), va_P D vwCl (w_X8_findChips cyI cyJ cyZ cyB cyO aM aM_d aM_e aM_came aM_got aM_held aM_off aM_sizeOf aM_number aM_f aM_kept aM_found aM_tape aM_comesUp aM_comesDown aM_path aM_gets aM_gotNow aM_bitsOf aM_passing vM_isKept vM_taped vM_leaked vM_keptAll vM_offAll vM_up vM_down vM_sharesUp vM_sharesDown vM_onUp vM_onDown vM_great vM_triedOff vM_triedLeaked vM_triedKept vM_fitting vM_firstSet vM_inAll vM_inAny vM_at vM_sort vM_from vM_value vM_fault cM_d cM_e cM_came cM_got cM_held cM_off cM_sizeOf cM_number) H → va_D A (w_X8_findChips cyI cyJ cyZ cyB cyO aM aM_d aM_e aM_came aM_got aM_held aM_off aM_sizeOf aM_number aM_f aM_kept aM_found aM_tape aM_comesUp aM_comesDown aM_path aM_gets aM_gotNow aM_bitsOf aM_passing vM_isKept vM_taped vM_leaked vM_keptAll vM_offAll vM_up vM_down vM_sharesUp vM_sharesDown vM_onUp vM_onDown vM_great vM_triedOff vM_triedLeaked vM_triedKept vM_fitting vM_firstSet vM_inAll vM_inAny vM_at vM_sort vM_from vM_value vM_fault cM_d cM_e cM_came cM_got cM_held cM_off cM_sizeOf cM_number) → va_S A s.heap H locs → lv_has ls 5 [(2, .int y2), (0, .ref aM), (1, .int x1)] → f_X8_findChips_J172 x1 cM_sizeOf cM_number (f_X8_findChips_L42 x1 cM_sizeOf cM_number k42) y2 t1 vM_leaked vM_keptAll vM_offAll vM_fitting vM_firstSet vM_inAll vM_inAny cM_d cM_e cM_came cM_got cM_held cM_off = some out → W p l e ({ frames := 3, cells := 0, slots := 0, locals := 74 } : Room) s m args below meth c H locs 0 0 Q (F0 m 172 ls [.int t1, .ref aM]) := by
                        intro y2 t1 vM_leaked vM_keptAll vM_offAll vM_fitting vM_firstSet vM_inAll vM_inAny cM_d cM_e cM_came cM_got cM_held cM_off H locs ls hP hD hS hl h
                        unfold f_X8_findChips_J172 at h
                        refine va_put (D := D) (ci := 7) (v := .int t1) (ty := .int) (C := RX8) (T := TX8) (N := 43) hx hb hts in_X8 tyX8 tyX8_ok nmX8 hown hK hP hD hS 0 rfl rfl 31 (by decide) q4 (fun _ h9 => h9) rfl (by decide +kernel) rfl rfl (Nat.le_of_ble_eq_true rfl) dX8_findChips_172 (fun H locs hP hD hS => ?_)
                        have hP : va_P D vwCl (w_X8_findChips cyI cyJ cyZ cyB cyO aM aM_d aM_e aM_came aM_got aM_held aM_off aM_sizeOf aM_number aM_f aM_kept aM_found aM_tape aM_comesUp aM_comesDown aM_path aM_gets aM_gotNow aM_bitsOf aM_passing vM_isKept vM_taped vM_leaked vM_keptAll vM_offAll vM_up vM_down vM_sharesUp vM_sharesDown vM_onUp vM_onDown vM_great vM_triedOff vM_triedLeaked vM_triedKept vM_fitting t1 vM_inAll vM_inAny vM_at vM_sort vM_from vM_value vM_fault cM_d cM_e cM_came cM_got cM_held cM_off cM_sizeOf cM_number) H := hP
                        have hD : va_D A (w_X8_findChips cyI cyJ cyZ cyB cyO aM aM_d aM_e aM_came aM_got aM_held aM_off aM_sizeOf aM_number aM_f aM_kept aM_found aM_tape aM_comesUp aM_comesDown aM_path aM_gets aM_gotNow aM_bitsOf aM_passing vM_isKept vM_taped vM_leaked vM_keptAll vM_offAll vM_up vM_down vM_sharesUp vM_sharesDown vM_onUp vM_onDown vM_great vM_triedOff vM_triedLeaked vM_triedKept vM_fitting t1 vM_inAll vM_inAny vM_at vM_sort vM_from vM_value vM_fault cM_d cM_e cM_came cM_got cM_held cM_off cM_sizeOf cM_number) := hD
                        refine lv_aload_n hx hb dX8_findChips_175 rfl (lv_at hl 1 rfl) ?_
                        refine lv_dup hx hb dX8_findChips_176 rfl ?_
                        refine va_get (D := D) (ci := 7) (v := .int vM_fitting) (C := RX8) (T := TX8) (N := 43) hx hb hts in_X8 hown hK hP 0 rfl rfl 30 (by decide) q3 (fun _ h9 => h9) rfl dX8_findChips_177 ?_
                        refine lv_iconst (v := 1) hx hb dX8_findChips_180 (by decide) ?_
                        refine lv_iadd hx hb dX8_findChips_181 ?_
                        refine va_put (D := D) (ci := 7) (v := .int (vM_fitting + (1 : Int32))) (ty := .int) (C := RX8) (T := TX8) (N := 43) hx hb hts in_X8 tyX8 tyX8_ok nmX8 hown hK hP hD hS 0 rfl rfl 30 (by decide) q3 (fun _ h9 => h9) rfl (by decide +kernel) rfl rfl (Nat.le_of_ble_eq_true rfl) dX8_findChips_182 (fun H locs hP hD hS => ?_)
                        have hP : va_P D vwCl (w_X8_findChips cyI cyJ cyZ cyB cyO aM aM_d aM_e aM_came aM_got aM_held aM_off aM_sizeOf aM_number aM_f aM_kept aM_found aM_tape aM_comesUp aM_comesDown aM_path aM_gets aM_gotNow aM_bitsOf aM_passing vM_isKept vM_taped vM_leaked vM_keptAll vM_offAll vM_up vM_down vM_sharesUp vM_sharesDown vM_onUp vM_onDown vM_great vM_triedOff vM_triedLeaked vM_triedKept (vM_fitting + (1 : Int32)) t1 vM_inAll vM_inAny vM_at vM_sort vM_from vM_value vM_fault cM_d cM_e cM_came cM_got cM_held cM_off cM_sizeOf cM_number) H := hP
                        have hD : va_D A (w_X8_findChips cyI cyJ cyZ cyB cyO aM aM_d aM_e aM_came aM_got aM_held aM_off aM_sizeOf aM_number aM_f aM_kept aM_found aM_tape aM_comesUp aM_comesDown aM_path aM_gets aM_gotNow aM_bitsOf aM_passing vM_isKept vM_taped vM_leaked vM_keptAll vM_offAll vM_up vM_down vM_sharesUp vM_sharesDown vM_onUp vM_onDown vM_great vM_triedOff vM_triedLeaked vM_triedKept (vM_fitting + (1 : Int32)) t1 vM_inAll vM_inAny vM_at vM_sort vM_from vM_value vM_fault cM_d cM_e cM_came cM_got cM_held cM_off cM_sizeOf cM_number) := hD
                        refine lv_aload_n hx hb dX8_findChips_185 rfl (lv_at hl 1 rfl) ?_
                        refine lv_dup hx hb dX8_findChips_186 rfl ?_
                        refine va_get (D := D) (ci := 7) (v := .int vM_inAll) (C := RX8) (T := TX8) (N := 43) hx hb hts in_X8 hown hK hP 0 rfl rfl 32 (by decide) q5 (fun _ h9 => h9) rfl dX8_findChips_187 ?_
                        refine lv_iload_n hx hb dX8_findChips_190 rfl (lv_at hl 0 rfl) ?_
                        refine lv_iand hx hb dX8_findChips_191 ?_
                        refine va_put (D := D) (ci := 7) (v := .int (vM_inAll &&& y2)) (ty := .int) (C := RX8) (T := TX8) (N := 43) hx hb hts in_X8 tyX8 tyX8_ok nmX8 hown hK hP hD hS 0 rfl rfl 32 (by decide) q5 (fun _ h9 => h9) rfl (by decide +kernel) rfl rfl (Nat.le_of_ble_eq_true rfl) dX8_findChips_192 (fun H locs hP hD hS => ?_)
                        have hP : va_P D vwCl (w_X8_findChips cyI cyJ cyZ cyB cyO aM aM_d aM_e aM_came aM_got aM_held aM_off aM_sizeOf aM_number aM_f aM_kept aM_found aM_tape aM_comesUp aM_comesDown aM_path aM_gets aM_gotNow aM_bitsOf aM_passing vM_isKept vM_taped vM_leaked vM_keptAll vM_offAll vM_up vM_down vM_sharesUp vM_sharesDown vM_onUp vM_onDown vM_great vM_triedOff vM_triedLeaked vM_triedKept (vM_fitting + (1 : Int32)) t1 (vM_inAll &&& y2) vM_inAny vM_at vM_sort vM_from vM_value vM_fault cM_d cM_e cM_came cM_got cM_held cM_off cM_sizeOf cM_number) H := hP
                        have hD : va_D A (w_X8_findChips cyI cyJ cyZ cyB cyO aM aM_d aM_e aM_came aM_got aM_held aM_off aM_sizeOf aM_number aM_f aM_kept aM_found aM_tape aM_comesUp aM_comesDown aM_path aM_gets aM_gotNow aM_bitsOf aM_passing vM_isKept vM_taped vM_leaked vM_keptAll vM_offAll vM_up vM_down vM_sharesUp vM_sharesDown vM_onUp vM_onDown vM_great vM_triedOff vM_triedLeaked vM_triedKept (vM_fitting + (1 : Int32)) t1 (vM_inAll &&& y2) vM_inAny vM_at vM_sort vM_from vM_value vM_fault cM_d cM_e cM_came cM_got cM_held cM_off cM_sizeOf cM_number) := hD
                        refine lv_aload_n hx hb dX8_findChips_195 rfl (lv_at hl 1 rfl) ?_
                        refine lv_dup hx hb dX8_findChips_196 rfl ?_
                        refine va_get (D := D) (ci := 7) (v := .int vM_inAny) (C := RX8) (T := TX8) (N := 43) hx hb hts in_X8 hown hK hP 0 rfl rfl 33 (by decide) q6 (fun _ h9 => h9) rfl dX8_findChips_197 ?_
                        refine lv_iload_n hx hb dX8_findChips_200 rfl (lv_at hl 0 rfl) ?_
                        refine lv_ior hx hb dX8_findChips_201 ?_
                        refine va_put (D := D) (ci := 7) (v := .int (vM_inAny ||| y2)) (ty := .int) (C := RX8) (T := TX8) (N := 43) hx hb hts in_X8 tyX8 tyX8_ok nmX8 hown hK hP hD hS 0 rfl rfl 33 (by decide) q6 (fun _ h9 => h9) rfl (by decide +kernel) rfl rfl (Nat.le_of_ble_eq_true rfl) dX8_findChips_202 (fun H locs hP hD hS => ?_)
                        have hP : va_P D vwCl (w_X8_findChips cyI cyJ cyZ cyB cyO aM aM_d aM_e aM_came aM_got aM_held aM_off aM_sizeOf aM_number aM_f aM_kept aM_found aM_tape aM_comesUp aM_comesDown aM_path aM_gets aM_gotNow aM_bitsOf aM_passing vM_isKept vM_taped vM_leaked vM_keptAll vM_offAll vM_up vM_down vM_sharesUp vM_sharesDown vM_onUp vM_onDown vM_great vM_triedOff vM_triedLeaked vM_triedKept (vM_fitting + (1 : Int32)) t1 (vM_inAll &&& y2) (vM_inAny ||| y2) vM_at vM_sort vM_from vM_value vM_fault cM_d cM_e cM_came cM_got cM_held cM_off cM_sizeOf cM_number) H := hP
                        have hD : va_D A (w_X8_findChips cyI cyJ cyZ cyB cyO aM aM_d aM_e aM_came aM_got aM_held aM_off aM_sizeOf aM_number aM_f aM_kept aM_found aM_tape aM_comesUp aM_comesDown aM_path aM_gets aM_gotNow aM_bitsOf aM_passing vM_isKept vM_taped vM_leaked vM_keptAll vM_offAll vM_up vM_down vM_sharesUp vM_sharesDown vM_onUp vM_onDown vM_great vM_triedOff vM_triedLeaked vM_triedKept (vM_fitting + (1 : Int32)) t1 (vM_inAll &&& y2) (vM_inAny ||| y2) vM_at vM_sort vM_from vM_value vM_fault cM_d cM_e cM_came cM_got cM_held cM_off cM_sizeOf cM_number) := hD
                        refine lv_iinc (v := y2 + 1) (lv' := [(2, .int (y2 + 1)), (0, .ref aM), (1, .int x1)]) hx hb dX8_findChips_205 hl (k := 0) rfl rfl (by decide) rfl (fun ls hl => ?_)
                        refine lv_goto (tgt := 42) hx hb dX8_findChips_208 (by decide) ?_
                        exact ih42 (y2 + 1) vM_leaked vM_keptAll vM_offAll (vM_fitting + (1 : Int32)) t1 (vM_inAll &&& y2) (vM_inAny ||| y2) cM_d cM_e cM_came cM_got cM_held cM_off _ _ _ hP hD hS (lv_sub hl [0, 1, 2] rfl) h
                      refine lv_if_ne (tgt := 168) hx hb dX8_findChips_161 (by decide) (fun c6 => ?_) (fun c6 => ?_)
                      · have h := br_neg c6 h
                        refine lv_aload_n hx hb dX8_findChips_168 rfl (lv_at hl 2 rfl) ?_
                        refine va_get (D := D) (ci := 7) (v := .int vM_firstSet) (C := RX8) (T := TX8) (N := 43) hx hb hts in_X8 hown hK hP 0 rfl rfl 31 (by decide) q4 (fun _ h9 => h9) rfl dX8_findChips_169 ?_
                        exact j172 y2 vM_firstSet vM_leaked vM_keptAll vM_offAll vM_fitting vM_firstSet vM_inAll vM_inAny cM_d cM_e cM_came cM_got cM_held cM_off _ _ _ hP hD hS (lv_sub hl [0, 2, 3] rfl) h
                      · have h := br_pos c6 h
                        refine lv_iload_n hx hb dX8_findChips_164 rfl (lv_at hl 0 rfl) ?_
                        refine lv_goto (tgt := 172) hx hb dX8_findChips_165 (by decide) ?_
                        exact j172 y2 y2 vM_leaked vM_keptAll vM_offAll vM_fitting vM_firstSet vM_inAll vM_inAny cM_d cM_e cM_came cM_got cM_held cM_off _ _ _ hP hD hS (lv_sub hl [0, 2, 3] rfl) h
                  refine lv_icmp_ge (tgt := 152) hx hb dX8_findChips_100 (by decide) (fun c7 => ?_) (fun c7 => ?_)
                  · have h := br_pos c7 h
                    exact j152 y2 y3 vM_leaked vM_keptAll vM_offAll vM_fitting vM_firstSet vM_inAll vM_inAny cM_d cM_e cM_came cM_got cM_held cM_off _ _ _ hP hD hS (lv_sub hl [0, 1, 3, 4] rfl) h
                  · have h := br_neg c7 h
                    refine lv_iload hx hb dX8_findChips_103 (lv_at hl 2 rfl) ?_
                    refine lv_aload_n hx hb dX8_findChips_105 rfl (lv_at hl 3 rfl) ?_
                    refine va_get (D := D) (ci := 7) (v := .ref aM_sizeOf) (C := RX8) (T := TX8) (N := 43) hx hb hts in_X8 hown hK hP 0 rfl rfl 40 (by decide) q7 (fun _ h9 => h9) rfl dX8_findChips_106 ?_
                    refine lv_iload_n hx hb dX8_findChips_109 rfl (lv_at hl 4 rfl) ?_
                    obtain ⟨g8, h⟩ := gd_some h
                    refine va_iald hx hb hK hP 7 0 rfl rfl g8 dX8_findChips_110 ?_
                    refine lv_icmp_ge (tgt := 152) hx hb dX8_findChips_111 (by decide) (fun c9 => ?_) (fun c9 => ?_)
                    · have h := br_pos c9 h
                      exact j152 y2 y3 vM_leaked vM_keptAll vM_offAll vM_fitting vM_firstSet vM_inAll vM_inAny cM_d cM_e cM_came cM_got cM_held cM_off _ _ _ hP hD hS (lv_sub hl [0, 1, 3, 4] rfl) h
                    · have h := br_neg c9 h
                      refine lv_iload_n hx hb dX8_findChips_114 rfl (lv_at hl 1 rfl) ?_
                      refine lv_if_eq (tgt := 144) hx hb dX8_findChips_115 (by decide) (fun c10 => ?_) (fun c10 => ?_)
                      · have h := br_pos c10 h
                        refine lv_iconst (v := 0) hx hb dX8_findChips_144 (by decide) ?_
                        refine lv_istore_n (lv' := [(3, .int (0 : Int32)), (2, .int y2), (4, .int y4), (0, .ref aM), (1, .int x1)]) hx hb dX8_findChips_145 rfl hl (by decide) rfl (fun ls hl => ?_)
                        refine lv_iinc (v := y4 + 1) (lv' := [(4, .int (y4 + 1)), (3, .int (0 : Int32)), (2, .int y2), (0, .ref aM), (1, .int x1)]) hx hb dX8_findChips_146 hl (k := 2) rfl rfl (by decide) rfl (fun ls hl => ?_)
                        refine lv_goto (tgt := 92) hx hb dX8_findChips_149 (by decide) ?_
                        exact ih92 y2 (0 : Int32) (y4 + 1) vM_leaked vM_keptAll vM_offAll vM_fitting vM_firstSet vM_inAll vM_inAny cM_d cM_e cM_came cM_got cM_held cM_off _ _ _ hP hD hS (lv_sub hl [2, 1, 0, 3, 4] rfl) h
                      · have h := br_neg c10 h
                        refine lv_aload_n hx hb dX8_findChips_118 rfl (lv_at hl 3 rfl) ?_
                        refine va_get (D := D) (ci := 7) (v := .ref aM_got) (C := RX8) (T := TX8) (N := 43) hx hb hts in_X8 hown hK hP 0 rfl rfl 9 (by decide) q8 (fun _ h9 => h9) rfl dX8_findChips_119 ?_
                        refine lv_iload hx hb dX8_findChips_122 (lv_at hl 2 rfl) ?_
                        obtain ⟨g11, h⟩ := gd_some h
                        refine va_iald hx hb hK hP 4 0 rfl rfl g11 dX8_findChips_124 ?_
                        refine lv_aload_n hx hb dX8_findChips_125 rfl (lv_at hl 3 rfl) ?_
                        refine va_get (D := D) (ci := 7) (v := .ref aM_number) (C := RX8) (T := TX8) (N := 43) hx hb hts in_X8 hown hK hP 0 rfl rfl 41 (by decide) q9 (fun _ h9 => h9) rfl dX8_findChips_126 ?_
                        refine lv_bipush (v := 40) hx hb dX8_findChips_129 (by decide) ?_
                        refine lv_iload_n hx hb dX8_findChips_131 rfl (lv_at hl 4 rfl) ?_
                        refine lv_imul hx hb dX8_findChips_132 ?_
                        refine lv_iload hx hb dX8_findChips_133 (lv_at hl 2 rfl) ?_
                        refine lv_iadd hx hb dX8_findChips_135 ?_
                        obtain ⟨g12, h⟩ := gd_some h
                        refine va_iald hx hb hK hP 8 0 rfl rfl g12 dX8_findChips_136 ?_
                        refine lv_icmp_ne (tgt := 144) hx hb dX8_findChips_137 (by decide) (fun c13 => ?_) (fun c13 => ?_)
                        · have h := br_neg c13 h
                          refine lv_iconst (v := 0) hx hb dX8_findChips_144 (by decide) ?_
                          refine lv_istore_n (lv' := [(3, .int (0 : Int32)), (2, .int y2), (4, .int y4), (0, .ref aM), (1, .int x1)]) hx hb dX8_findChips_145 rfl hl (by decide) rfl (fun ls hl => ?_)
                          refine lv_iinc (v := y4 + 1) (lv' := [(4, .int (y4 + 1)), (3, .int (0 : Int32)), (2, .int y2), (0, .ref aM), (1, .int x1)]) hx hb dX8_findChips_146 hl (k := 2) rfl rfl (by decide) rfl (fun ls hl => ?_)
                          refine lv_goto (tgt := 92) hx hb dX8_findChips_149 (by decide) ?_
                          exact ih92 y2 (0 : Int32) (y4 + 1) vM_leaked vM_keptAll vM_offAll vM_fitting vM_firstSet vM_inAll vM_inAny cM_d cM_e cM_came cM_got cM_held cM_off _ _ _ hP hD hS (lv_sub hl [2, 1, 0, 3, 4] rfl) h
                        · have h := br_pos c13 h
                          refine lv_iconst (v := 1) hx hb dX8_findChips_140 (by decide) ?_
                          refine lv_goto (tgt := 145) hx hb dX8_findChips_141 (by decide) ?_
                          refine lv_istore_n (lv' := [(3, .int (1 : Int32)), (2, .int y2), (4, .int y4), (0, .ref aM), (1, .int x1)]) hx hb dX8_findChips_145 rfl hl (by decide) rfl (fun ls hl => ?_)
                          refine lv_iinc (v := y4 + 1) (lv' := [(4, .int (y4 + 1)), (3, .int (1 : Int32)), (2, .int y2), (0, .ref aM), (1, .int x1)]) hx hb dX8_findChips_146 hl (k := 2) rfl rfl (by decide) rfl (fun ls hl => ?_)
                          refine lv_goto (tgt := 92) hx hb dX8_findChips_149 (by decide) ?_
                          exact ih92 y2 (1 : Int32) (y4 + 1) vM_leaked vM_keptAll vM_offAll vM_fitting vM_firstSet vM_inAll vM_inAny cM_d cM_e cM_came cM_got cM_held cM_off _ _ _ hP hD hS (lv_sub hl [2, 1, 0, 3, 4] rfl) h
              exact lp92 FU y2 (1 : Int32) (0 : Int32) u4.1 u4.2.1 u4.2.2.1 vM_fitting vM_firstSet vM_inAll vM_inAny cM_d cM_e u4.2.2.2.1 u4.2.2.2.2.1 u4.2.2.2.2.2.1 u4.2.2.2.2.2.2 _ _ _ hP hD hS (lv_sub hl [2, 1, 0, 3, 4] rfl) h
            refine lv_icmp_ge (tgt := 83) hx hb dX8_findChips_63 (by decide) (fun c14 => ?_) (fun c14 => ?_)
            · have h := br_pos c14 h
              exact j83 y2 vM_leaked vM_keptAll vM_offAll vM_fitting vM_firstSet vM_inAll vM_inAny cM_d cM_e cM_came cM_got cM_held cM_off _ _ _ hP hD hS (lv_sub hl [0, 2, 3] rfl) h
            · have h := br_neg c14 h
              refine lv_aload_n hx hb dX8_findChips_66 rfl (lv_at hl 2 rfl) ?_
              refine lv_iload_n hx hb dX8_findChips_67 rfl (lv_at hl 1 rfl) ?_
              refine lv_iconst (v := 0) hx hb dX8_findChips_68 (by decide) ?_
              refine lv_iload_n hx hb dX8_findChips_69 rfl (lv_at hl 0 rfl) ?_
              refine lv_iload_n hx hb dX8_findChips_70 rfl (lv_at hl 1 rfl) ?_
              refine lv_ishr hx hb dX8_findChips_71 ?_
              refine lv_iconst (v := 1) hx hb dX8_findChips_72 (by decide) ?_
              refine lv_iand hx hb dX8_findChips_73 ?_
              obtain ⟨u15, hu15, h⟩ := bd_some h
              refine cl_Vv (rest := []) F hK hP hD hS hA hl (t_X8_sets l D cyI cyJ cyZ cyB cyO aM aM_d aM_e aM_f aM_kept aM_found aM_tape aM_came aM_got aM_held aM_off aM_comesUp aM_comesDown aM_path aM_gets aM_gotNow aM_bitsOf aM_sizeOf aM_number aM_passing vM_isKept vM_taped vM_leaked vM_keptAll vM_offAll vM_up vM_down vM_sharesUp vM_sharesDown vM_onUp vM_onDown vM_great vM_triedOff vM_triedLeaked vM_triedKept vM_fitting vM_firstSet vM_inAll vM_inAny vM_at vM_sort vM_from vM_value vM_fault cM_d y3 (0 : Int32) ((y2 >>> (y3 &&& 31)) &&& (1 : Int32)) u15 hu15) (cwV 3 hts gX8_findChips_X8_sets rfl rfl rfl (by decide +kernel) ⟨Nat.le_of_ble_eq_true rfl, Nat.le_of_ble_eq_true rfl⟩) 0 [0, 1] [1, 2, 0, 0, 0, 0, 0, 0, 0] [] (w_X8_findChips cyI cyJ cyZ cyB cyO aM aM_d aM_e aM_came aM_got aM_held aM_off aM_sizeOf aM_number aM_f aM_kept aM_found aM_tape aM_comesUp aM_comesDown aM_path aM_gets aM_gotNow aM_bitsOf aM_passing vM_isKept vM_taped vM_leaked vM_keptAll vM_offAll vM_up vM_down vM_sharesUp vM_sharesDown vM_onUp vM_onDown vM_great vM_triedOff vM_triedLeaked vM_triedKept vM_fitting vM_firstSet vM_inAll vM_inAny vM_at vM_sort vM_from vM_value vM_fault u15 cM_e cM_came cM_got cM_held cM_off cM_sizeOf cM_number) rfl rfl rfl rfl rfl (by decide +kernel) rfl rfl (Nat.le_of_ble_eq_true rfl) ⟨Nat.zero_le _, Nat.zero_le _⟩ dX8_findChips_74 (fun H locs hP hD hS => ?_)
              refine lv_iinc (v := y3 + 1) (lv' := [(3, .int (y3 + 1)), (2, .int y2), (0, .ref aM), (1, .int x1)]) hx hb dX8_findChips_77 hl (k := 1) rfl rfl (by decide) rfl (fun ls hl => ?_)
              refine lv_goto (tgt := 56) hx hb dX8_findChips_80 (by decide) ?_
              exact ih56 y2 (y3 + 1) vM_leaked vM_keptAll vM_offAll vM_fitting vM_firstSet vM_inAll vM_inAny u15 cM_e cM_came cM_got cM_held cM_off _ _ _ hP hD hS (lv_sub hl [1, 0, 2, 3] rfl) h
        exact lp56 FU y2 (0 : Int32) vM_leaked vM_keptAll vM_offAll vM_fitting vM_firstSet vM_inAll vM_inAny cM_d cM_e cM_came cM_got cM_held cM_off _ _ _ hP hD hS (lv_sub hl [1, 0, 2, 3] rfl) h
  exact lp42 FU (0 : Int32) vM_leaked vM_keptAll vM_offAll (0 : Int32) (0 : Int32) (((1 : Int32) <<< ((cM_d (0 : Int32).toNatClampNeg) &&& 31)) - (1 : Int32)) (0 : Int32) cM_d u1 cM_came cM_got cM_held cM_off _ _ _ hP hD hS (lv_sub hl [0, 1, 2] rfl) h
/-! ===== X8_isSheet ===== -/
def w_X8_isSheet (cyI cyJ cyZ cyB cyO : ClassId) : va_W := []
set_option maxHeartbeats 4000000 in
set_option maxRecDepth 100000 in
theorem t_X8_isSheet (l : Launch) (D : va_G) (cyI cyJ cyZ cyB cyO : ClassId) (x0 : Int32) (out : Int32) (h : f_X8_isSheet x0 = some out) : Mi l yX8_isSheet wsX8_isSheet ({ frames := 1, cells := 0, slots := 0, locals := 25 } : Room) D (tyA cyI cyJ cyZ cyB cyO) [.int x0] (w_X8_isSheet cyI cyJ cyZ cyB cyO ) (w_X8_isSheet cyI cyJ cyZ cyB cyO ) out := by
  refine Mi.mk (cc := cX8_isSheet) (maxL := 1) (rt := .boolean) (own := RX8) (by decide) rfl rfl (Nat.le_of_ble_eq_true rfl) ?_
  intro p e s m args below meth c A Q F hK hP hD hA hret ls hl
  obtain ⟨hx, hb, hml, hown, hts⟩ := id F
  have hS : va_S A s.heap s.heap [] := va_S.rf
  have hl : lv_has ls 1 [(0, .int x0)] := hl
  have q1 := hts (Cond.constantLong RX8 158 (3)) (List.mem_of_getElem? (i := 1) rfl)
  have q2 := hts (Cond.methodLink RX8 70 yX8_in) (List.mem_of_getElem? (i := 2) rfl)
  unfold f_X8_isSheet at h
  refine lv_iload_n hx hb dX8_isSheet_0 rfl (lv_at hl 0 rfl) ?_
  refine lv_i2l hx hb dX8_isSheet_1 rfl ?_
  refine lv_lconst (v := 0) hx hb dX8_isSheet_2 (by decide) ?_
  refine lv_ldc2 (v := 3) hx hb hown q1 dX8_isSheet_3 ?_
  obtain ⟨u1, hu1, h⟩ := bd_some h
  refine cl_Si (rest := []) F hK hP hD hS hA hl (t_X8_in l D cyI cyJ cyZ cyB cyO x0.toInt64 (0 : Int64) (3 : Int64) u1 hu1) (va_cwS 3 hts gX8_isSheet_X8_in rfl rfl rfl (by decide +kernel) ⟨Nat.le_of_ble_eq_true rfl, Nat.le_of_ble_eq_true rfl⟩) [] [] [] (w_X8_isSheet cyI cyJ cyZ cyB cyO ) rfl rfl rfl (by decide +kernel) rfl rfl (Nat.le_of_ble_eq_true rfl) ⟨Nat.zero_le _, Nat.zero_le _⟩ dX8_isSheet_6 (fun H locs hP hD hS => ?_)
  obtain ⟨g2, h⟩ := gd_some h
  obtain rfl := Option.some.inj h
  exact hret _ _ _ _ _ hP hD hS dX8_isSheet_9 (nz_of g2) rfl
/-! ===== X8_whyNone ===== -/
def w_X8_whyNone (cyI cyJ cyZ cyB cyO : ClassId) (aM aM_bitsOf aM_d aM_e aM_f aM_kept aM_found aM_tape aM_came aM_got aM_held aM_off aM_comesUp aM_comesDown aM_path aM_gets aM_gotNow aM_sizeOf aM_number aM_passing : Nat) (vM_isKept : Int32) (vM_taped : Int32) (vM_leaked : Int32) (vM_keptAll : Int32) (vM_offAll : Int32) (vM_up : Int64) (vM_down : Int64) (vM_sharesUp : Int64) (vM_sharesDown : Int64) (vM_onUp : Int64) (vM_onDown : Int64) (vM_great : Int32) (vM_triedOff : Int32) (vM_triedLeaked : Int32) (vM_triedKept : Int32) (vM_fitting : Int32) (vM_firstSet : Int32) (vM_inAll : Int32) (vM_inAny : Int32) (vM_at : Int32) (vM_sort : Int32) (vM_from : Int32) (vM_value : Int64) (vM_fault : Int32) (cM_bitsOf : Nat → Int32) : va_W := [(aM, .inr (7, [.ref aM_d, .ref aM_e, .ref aM_f, .ref aM_kept, .int vM_isKept, .ref aM_found, .ref aM_tape, .int vM_taped, .ref aM_came, .ref aM_got, .ref aM_held, .ref aM_off, .int vM_leaked, .int vM_keptAll, .int vM_offAll, .ref aM_comesUp, .ref aM_comesDown, .long vM_up, .long vM_down, .long vM_sharesUp, .long vM_sharesDown, .long vM_onUp, .long vM_onDown, .int vM_great, .ref aM_path, .ref aM_gets, .int vM_triedOff, .int vM_triedLeaked, .int vM_triedKept, .ref aM_gotNow, .int vM_fitting, .int vM_firstSet, .int vM_inAll, .int vM_inAny, .int vM_at, .int vM_sort, .int vM_from, .long vM_value, .int vM_fault, .ref aM_bitsOf, .ref aM_sizeOf, .ref aM_number, .ref aM_passing])), (aM_bitsOf, .inl (cyI, 4, .inl cM_bitsOf))]
set_option maxHeartbeats 4000000 in
set_option maxRecDepth 100000 in
theorem t_X8_whyNone (l : Launch) (D : va_G) (cyI cyJ cyZ cyB cyO : ClassId) (aM aM_bitsOf aM_d aM_e aM_f aM_kept aM_found aM_tape aM_came aM_got aM_held aM_off aM_comesUp aM_comesDown aM_path aM_gets aM_gotNow aM_sizeOf aM_number aM_passing : Nat) (vM_isKept : Int32) (vM_taped : Int32) (vM_leaked : Int32) (vM_keptAll : Int32) (vM_offAll : Int32) (vM_up : Int64) (vM_down : Int64) (vM_sharesUp : Int64) (vM_sharesDown : Int64) (vM_onUp : Int64) (vM_onDown : Int64) (vM_great : Int32) (vM_triedOff : Int32) (vM_triedLeaked : Int32) (vM_triedKept : Int32) (vM_fitting : Int32) (vM_firstSet : Int32) (vM_inAll : Int32) (vM_inAny : Int32) (vM_at : Int32) (vM_sort : Int32) (vM_from : Int32) (vM_value : Int64) (vM_fault : Int32) (cM_bitsOf : Nat → Int32) (x1 : Int32) (out : Int32) (h : f_X8_whyNone x1 cM_bitsOf = some out) : Mi l yX8_whyNone wsX8_whyNone ({ frames := 2, cells := 0, slots := 0, locals := 45 } : Room) D (tyA cyI cyJ cyZ cyB cyO) [.ref aM, .int x1] (w_X8_whyNone cyI cyJ cyZ cyB cyO aM aM_bitsOf aM_d aM_e aM_f aM_kept aM_found aM_tape aM_came aM_got aM_held aM_off aM_comesUp aM_comesDown aM_path aM_gets aM_gotNow aM_sizeOf aM_number aM_passing vM_isKept vM_taped vM_leaked vM_keptAll vM_offAll vM_up vM_down vM_sharesUp vM_sharesDown vM_onUp vM_onDown vM_great vM_triedOff vM_triedLeaked vM_triedKept vM_fitting vM_firstSet vM_inAll vM_inAny vM_at vM_sort vM_from vM_value vM_fault cM_bitsOf) (w_X8_whyNone cyI cyJ cyZ cyB cyO aM aM_bitsOf aM_d aM_e aM_f aM_kept aM_found aM_tape aM_came aM_got aM_held aM_off aM_comesUp aM_comesDown aM_path aM_gets aM_gotNow aM_sizeOf aM_number aM_passing vM_isKept vM_taped vM_leaked vM_keptAll vM_offAll vM_up vM_down vM_sharesUp vM_sharesDown vM_onUp vM_onDown vM_great vM_triedOff vM_triedLeaked vM_triedKept vM_fitting vM_firstSet vM_inAll vM_inAny vM_at vM_sort vM_from vM_value vM_fault cM_bitsOf) out := by
  refine Mi.mk (cc := cX8_whyNone) (maxL := 2) (rt := .int) (own := RX8) (by decide) rfl rfl (Nat.le_of_ble_eq_true rfl) ?_
  intro p e s m args below meth c A Q F hK hP hD hA hret ls hl
  obtain ⟨hx, hb, hml, hown, hts⟩ := id F
  have hS : va_S A s.heap s.heap [] := va_S.rf
  have hl : lv_has ls 2 [(0, .ref aM), (1, .int x1)] := hl
  have in_X8 : ∀ w ∈ wsX80, w ∈ wsX8_whyNone := by decide +kernel
  have q2 := hts (Cond.methodLink RX8 359 yX8_isSheet) (List.mem_of_getElem? (i := 2) rfl)
  have q1 := hts (Cond.fieldLink RX8 57 "ThirdFountainModel" "bitsOf" "[I") (List.mem_of_getElem? (i := 1) rfl)
  unfold f_X8_whyNone at h
  refine lv_iload_n hx hb dX8_whyNone_0 rfl (lv_at hl 1 rfl) ?_
  obtain ⟨u1, hu1, h⟩ := bd_some h
  refine cl_Si (rest := []) F hK hP hD hS hA hl (t_X8_isSheet l D cyI cyJ cyZ cyB cyO x1 u1 hu1) (va_cwS 1 hts gX8_whyNone_X8_isSheet rfl rfl rfl (by decide +kernel) ⟨Nat.le_of_ble_eq_true rfl, Nat.le_of_ble_eq_true rfl⟩) [] [0, 0] [] (w_X8_whyNone cyI cyJ cyZ cyB cyO aM aM_bitsOf aM_d aM_e aM_f aM_kept aM_found aM_tape aM_came aM_got aM_held aM_off aM_comesUp aM_comesDown aM_path aM_gets aM_gotNow aM_sizeOf aM_number aM_passing vM_isKept vM_taped vM_leaked vM_keptAll vM_offAll vM_up vM_down vM_sharesUp vM_sharesDown vM_onUp vM_onDown vM_great vM_triedOff vM_triedLeaked vM_triedKept vM_fitting vM_firstSet vM_inAll vM_inAny vM_at vM_sort vM_from vM_value vM_fault cM_bitsOf) rfl rfl rfl (by decide +kernel) rfl rfl (Nat.le_of_ble_eq_true rfl) ⟨Nat.zero_le _, Nat.zero_le _⟩ dX8_whyNone_1 (fun H locs hP hD hS => ?_)
  refine lv_if_ne (tgt := 11) hx hb dX8_whyNone_4 (by decide) (fun c2 => ?_) (fun c2 => ?_)
  · have h := br_neg c2 h
    refine lv_aload_n hx hb dX8_whyNone_11 rfl (lv_at hl 0 rfl) ?_
    refine va_get (D := D) (ci := 7) (v := .ref aM_bitsOf) (C := RX8) (T := TX8) (N := 43) hx hb hts in_X8 hown hK hP 0 rfl rfl 39 (by decide) q1 (fun _ h9 => h9) rfl dX8_whyNone_12 ?_
    refine lv_iload_n hx hb dX8_whyNone_15 rfl (lv_at hl 1 rfl) ?_
    obtain ⟨g3, h⟩ := gd_some h
    refine va_iald hx hb hK hP 1 0 rfl rfl g3 dX8_whyNone_16 ?_
    refine lv_if_ne (tgt := 24) hx hb dX8_whyNone_17 (by decide) (fun c4 => ?_) (fun c4 => ?_)
    · have h := br_neg c4 h
      refine lv_iconst (v := -1) hx hb dX8_whyNone_24 (by decide) ?_
      obtain rfl := Option.some.inj h
      exact hret _ _ _ _ _ hP hD hS dX8_whyNone_25 rfl rfl
    · have h := br_pos c4 h
      refine lv_iconst (v := 5) hx hb dX8_whyNone_20 (by decide) ?_
      refine lv_goto (tgt := 25) hx hb dX8_whyNone_21 (by decide) ?_
      obtain rfl := Option.some.inj h
      exact hret _ _ _ _ _ hP hD hS dX8_whyNone_25 rfl rfl
  · have h := br_pos c2 h
    refine lv_iconst (v := 0) hx hb dX8_whyNone_7 (by decide) ?_
    refine lv_goto (tgt := 25) hx hb dX8_whyNone_8 (by decide) ?_
    obtain rfl := Option.some.inj h
    exact hret _ _ _ _ _ hP hD hS dX8_whyNone_25 rfl rfl
/-! ===== X8_chips ===== -/
def w_X8_chips (cyI cyJ cyZ cyB cyO : ClassId) (aM aM_bitsOf aM_d aM_e aM_came aM_got aM_held aM_off aM_sizeOf aM_number aM_found aM_f aM_kept aM_tape aM_comesUp aM_comesDown aM_path aM_gets aM_gotNow aM_passing : Nat) (vM_isKept : Int32) (vM_taped : Int32) (vM_leaked : Int32) (vM_keptAll : Int32) (vM_offAll : Int32) (vM_up : Int64) (vM_down : Int64) (vM_sharesUp : Int64) (vM_sharesDown : Int64) (vM_onUp : Int64) (vM_onDown : Int64) (vM_great : Int32) (vM_triedOff : Int32) (vM_triedLeaked : Int32) (vM_triedKept : Int32) (vM_fitting : Int32) (vM_firstSet : Int32) (vM_inAll : Int32) (vM_inAny : Int32) (vM_at : Int32) (vM_sort : Int32) (vM_from : Int32) (vM_value : Int64) (vM_fault : Int32) (cM_bitsOf : Nat → Int32) (cM_d : Nat → Int32) (cM_e : Nat → Int32) (cM_came : Nat → Int32) (cM_got : Nat → Int32) (cM_held : Nat → Int32) (cM_off : Nat → Int32) (cM_sizeOf : Nat → Int32) (cM_number : Nat → Int32) (cM_found : Nat → Int32) : va_W := [(aM, .inr (7, [.ref aM_d, .ref aM_e, .ref aM_f, .ref aM_kept, .int vM_isKept, .ref aM_found, .ref aM_tape, .int vM_taped, .ref aM_came, .ref aM_got, .ref aM_held, .ref aM_off, .int vM_leaked, .int vM_keptAll, .int vM_offAll, .ref aM_comesUp, .ref aM_comesDown, .long vM_up, .long vM_down, .long vM_sharesUp, .long vM_sharesDown, .long vM_onUp, .long vM_onDown, .int vM_great, .ref aM_path, .ref aM_gets, .int vM_triedOff, .int vM_triedLeaked, .int vM_triedKept, .ref aM_gotNow, .int vM_fitting, .int vM_firstSet, .int vM_inAll, .int vM_inAny, .int vM_at, .int vM_sort, .int vM_from, .long vM_value, .int vM_fault, .ref aM_bitsOf, .ref aM_sizeOf, .ref aM_number, .ref aM_passing])), (aM_bitsOf, .inl (cyI, 4, .inl cM_bitsOf)), (aM_d, .inl (cyI, 64, .inl cM_d)), (aM_e, .inl (cyI, 64, .inl cM_e)), (aM_came, .inl (cyI, 10, .inl cM_came)), (aM_got, .inl (cyI, 10, .inl cM_got)), (aM_held, .inl (cyI, 10, .inl cM_held)), (aM_off, .inl (cyI, 10, .inl cM_off)), (aM_sizeOf, .inl (cyI, 4, .inl cM_sizeOf)), (aM_number, .inl (cyI, 160, .inl cM_number)), (aM_found, .inl (cyI, 7, .inl cM_found))]
set_option maxHeartbeats 4000000 in
set_option maxRecDepth 100000 in
theorem t_X8_chips (l : Launch) (D : va_G) (cyI cyJ cyZ cyB cyO : ClassId) (aM aM_bitsOf aM_d aM_e aM_came aM_got aM_held aM_off aM_sizeOf aM_number aM_found aM_f aM_kept aM_tape aM_comesUp aM_comesDown aM_path aM_gets aM_gotNow aM_passing : Nat) (vM_isKept : Int32) (vM_taped : Int32) (vM_leaked : Int32) (vM_keptAll : Int32) (vM_offAll : Int32) (vM_up : Int64) (vM_down : Int64) (vM_sharesUp : Int64) (vM_sharesDown : Int64) (vM_onUp : Int64) (vM_onDown : Int64) (vM_great : Int32) (vM_triedOff : Int32) (vM_triedLeaked : Int32) (vM_triedKept : Int32) (vM_fitting : Int32) (vM_firstSet : Int32) (vM_inAll : Int32) (vM_inAny : Int32) (vM_at : Int32) (vM_sort : Int32) (vM_from : Int32) (vM_value : Int64) (vM_fault : Int32) (cM_bitsOf : Nat → Int32) (cM_d : Nat → Int32) (cM_e : Nat → Int32) (cM_came : Nat → Int32) (cM_got : Nat → Int32) (cM_held : Nat → Int32) (cM_off : Nat → Int32) (cM_sizeOf : Nat → Int32) (cM_number : Nat → Int32) (cM_found : Nat → Int32) (x1 : Int32) (out : Int32 × Int32 × Int32 × Int32 × Int32 × Int32 × Int32 × Int32 × (Nat → Int32) × (Nat → Int32) × (Nat → Int32) × (Nat → Int32) × (Nat → Int32) × (Nat → Int32) × (Nat → Int32)) (h : f_X8_chips x1 vM_leaked vM_keptAll vM_offAll vM_fitting vM_firstSet vM_inAll vM_inAny cM_bitsOf cM_d cM_e cM_came cM_got cM_held cM_off cM_sizeOf cM_number cM_found = some out) : Mi l yX8_chips wsX8_chips ({ frames := 4, cells := 0, slots := 0, locals := 98 } : Room) D (tyA cyI cyJ cyZ cyB cyO) [.ref aM, .int x1] (w_X8_chips cyI cyJ cyZ cyB cyO aM aM_bitsOf aM_d aM_e aM_came aM_got aM_held aM_off aM_sizeOf aM_number aM_found aM_f aM_kept aM_tape aM_comesUp aM_comesDown aM_path aM_gets aM_gotNow aM_passing vM_isKept vM_taped vM_leaked vM_keptAll vM_offAll vM_up vM_down vM_sharesUp vM_sharesDown vM_onUp vM_onDown vM_great vM_triedOff vM_triedLeaked vM_triedKept vM_fitting vM_firstSet vM_inAll vM_inAny vM_at vM_sort vM_from vM_value vM_fault cM_bitsOf cM_d cM_e cM_came cM_got cM_held cM_off cM_sizeOf cM_number cM_found) (w_X8_chips cyI cyJ cyZ cyB cyO aM aM_bitsOf aM_d aM_e aM_came aM_got aM_held aM_off aM_sizeOf aM_number aM_found aM_f aM_kept aM_tape aM_comesUp aM_comesDown aM_path aM_gets aM_gotNow aM_passing vM_isKept vM_taped out.2.1 out.2.2.1 out.2.2.2.1 vM_up vM_down vM_sharesUp vM_sharesDown vM_onUp vM_onDown vM_great vM_triedOff vM_triedLeaked vM_triedKept out.2.2.2.2.1 out.2.2.2.2.2.1 out.2.2.2.2.2.2.1 out.2.2.2.2.2.2.2.1 vM_at vM_sort vM_from vM_value vM_fault cM_bitsOf out.2.2.2.2.2.2.2.2.1 out.2.2.2.2.2.2.2.2.2.1 out.2.2.2.2.2.2.2.2.2.2.1 out.2.2.2.2.2.2.2.2.2.2.2.1 out.2.2.2.2.2.2.2.2.2.2.2.2.1 out.2.2.2.2.2.2.2.2.2.2.2.2.2.1 cM_sizeOf cM_number out.2.2.2.2.2.2.2.2.2.2.2.2.2.2) out.1 := by
  refine Mi.mk (cc := cX8_chips) (maxL := 3) (rt := .int) (own := RX8) (by decide) rfl rfl (Nat.le_of_ble_eq_true rfl) ?_
  intro p e s m args below meth c A Q F hK hP hD hA hret ls hl
  obtain ⟨hx, hb, hml, hown, hts⟩ := id F
  have hS : va_S A s.heap s.heap [] := va_S.rf
  have hl : lv_has ls 3 [(0, .ref aM), (1, .int x1)] := hl
  have in_X8 : ∀ w ∈ wsX80, w ∈ wsX8_chips := by decide +kernel
  have q2 := hts (Cond.methodLink RX8 261 yX8_whyNone) (List.mem_of_getElem? (i := 2) rfl)
  have q21 := hts (Cond.methodLink RX8 264 yX8_findChips) (List.mem_of_getElem? (i := 21) rfl)
  have q1 := hts (Cond.fieldLink RX8 249 "ThirdFountainModel" "fitting" "I") (List.mem_of_getElem? (i := 1) rfl)
  have q15 := hts (Cond.methodLink RX8 115 yX8_finds) (List.mem_of_getElem? (i := 15) rfl)
  unfold f_X8_chips at h
  refine lv_aload_n hx hb dX8_chips_0 rfl (lv_at hl 0 rfl) ?_
  refine lv_iload_n hx hb dX8_chips_1 rfl (lv_at hl 1 rfl) ?_
  obtain ⟨u1, hu1, h⟩ := bd_some h
  refine cl_Vi (rest := []) F hK hP hD hS hA hl (t_X8_whyNone l D cyI cyJ cyZ cyB cyO aM aM_bitsOf aM_d aM_e aM_f aM_kept aM_found aM_tape aM_came aM_got aM_held aM_off aM_comesUp aM_comesDown aM_path aM_gets aM_gotNow aM_sizeOf aM_number aM_passing vM_isKept vM_taped vM_leaked vM_keptAll vM_offAll vM_up vM_down vM_sharesUp vM_sharesDown vM_onUp vM_onDown vM_great vM_triedOff vM_triedLeaked vM_triedKept vM_fitting vM_firstSet vM_inAll vM_inAny vM_at vM_sort vM_from vM_value vM_fault cM_bitsOf x1 u1 hu1) (cwV 1 hts gX8_chips_X8_whyNone rfl rfl rfl (by decide +kernel) ⟨Nat.le_of_ble_eq_true rfl, Nat.le_of_ble_eq_true rfl⟩) 0 [0, 1] [1, 2, 0, 0, 0, 0, 0, 0, 0, 0, 0] [] (w_X8_chips cyI cyJ cyZ cyB cyO aM aM_bitsOf aM_d aM_e aM_came aM_got aM_held aM_off aM_sizeOf aM_number aM_found aM_f aM_kept aM_tape aM_comesUp aM_comesDown aM_path aM_gets aM_gotNow aM_passing vM_isKept vM_taped vM_leaked vM_keptAll vM_offAll vM_up vM_down vM_sharesUp vM_sharesDown vM_onUp vM_onDown vM_great vM_triedOff vM_triedLeaked vM_triedKept vM_fitting vM_firstSet vM_inAll vM_inAny vM_at vM_sort vM_from vM_value vM_fault cM_bitsOf cM_d cM_e cM_came cM_got cM_held cM_off cM_sizeOf cM_number cM_found) rfl rfl rfl rfl rfl (by decide +kernel) rfl rfl (Nat.le_of_ble_eq_true rfl) ⟨Nat.zero_le _, Nat.zero_le _⟩ dX8_chips_2 (fun H locs hP hD hS => ?_)
  refine lv_istore_n (lv' := [(2, .int u1), (0, .ref aM), (1, .int x1)]) hx hb dX8_chips_5 rfl hl (by decide) rfl (fun ls hl => ?_)
  refine lv_iload_n hx hb dX8_chips_6 rfl (lv_at hl 0 rfl) ?_
  refine lv_if_lt (tgt := 16) hx hb dX8_chips_7 (by decide) (fun c2 => ?_) (fun c2 => ?_)
  · have h := br_pos c2 h
    refine lv_aload_n hx hb dX8_chips_16 rfl (lv_at hl 1 rfl) ?_
    refine lv_iload_n hx hb dX8_chips_17 rfl (lv_at hl 2 rfl) ?_
    obtain ⟨u3, hu3, h⟩ := bd_some h
    refine cl_Vv (rest := []) F hK hP hD hS hA hl (t_X8_findChips l D cyI cyJ cyZ cyB cyO aM aM_d aM_e aM_came aM_got aM_held aM_off aM_sizeOf aM_number aM_f aM_kept aM_found aM_tape aM_comesUp aM_comesDown aM_path aM_gets aM_gotNow aM_bitsOf aM_passing vM_isKept vM_taped vM_leaked vM_keptAll vM_offAll vM_up vM_down vM_sharesUp vM_sharesDown vM_onUp vM_onDown vM_great vM_triedOff vM_triedLeaked vM_triedKept vM_fitting vM_firstSet vM_inAll vM_inAny vM_at vM_sort vM_from vM_value vM_fault cM_d cM_e cM_came cM_got cM_held cM_off cM_sizeOf cM_number x1 u3 hu3) (cwV 1 hts gX8_chips_X8_findChips rfl rfl rfl (by decide +kernel) ⟨Nat.le_of_ble_eq_true rfl, Nat.le_of_ble_eq_true rfl⟩) 0 [0, 2, 3, 4, 5, 6, 7, 8, 9] [1, 0, 2, 3, 4, 5, 6, 7, 8, 9, 0] [] (w_X8_chips cyI cyJ cyZ cyB cyO aM aM_bitsOf aM_d aM_e aM_came aM_got aM_held aM_off aM_sizeOf aM_number aM_found aM_f aM_kept aM_tape aM_comesUp aM_comesDown aM_path aM_gets aM_gotNow aM_passing vM_isKept vM_taped u3.1 u3.2.1 u3.2.2.1 vM_up vM_down vM_sharesUp vM_sharesDown vM_onUp vM_onDown vM_great vM_triedOff vM_triedLeaked vM_triedKept u3.2.2.2.1 u3.2.2.2.2.1 u3.2.2.2.2.2.1 u3.2.2.2.2.2.2.1 vM_at vM_sort vM_from vM_value vM_fault cM_bitsOf u3.2.2.2.2.2.2.2.1 u3.2.2.2.2.2.2.2.2.1 u3.2.2.2.2.2.2.2.2.2.1 u3.2.2.2.2.2.2.2.2.2.2.1 u3.2.2.2.2.2.2.2.2.2.2.2.1 u3.2.2.2.2.2.2.2.2.2.2.2.2 cM_sizeOf cM_number cM_found) rfl rfl rfl rfl rfl (by decide +kernel) rfl rfl (Nat.le_of_ble_eq_true rfl) ⟨Nat.zero_le _, Nat.zero_le _⟩ dX8_chips_18 (fun H locs hP hD hS => ?_)
    refine lv_aload_n hx hb dX8_chips_21 rfl (lv_at hl 1 rfl) ?_
    refine va_get (D := D) (ci := 7) (v := .int u3.2.2.2.1) (C := RX8) (T := TX8) (N := 43) hx hb hts in_X8 hown hK hP 0 rfl rfl 30 (by decide) q1 (fun _ h9 => h9) rfl dX8_chips_22 ?_
    obtain rfl := Option.some.inj h
    exact hret _ _ _ _ _ hP hD hS dX8_chips_25 rfl rfl
  · have h := br_neg c2 h
    refine lv_aload_n hx hb dX8_chips_10 rfl (lv_at hl 1 rfl) ?_
    refine lv_iload_n hx hb dX8_chips_11 rfl (lv_at hl 0 rfl) ?_
    obtain ⟨u4, hu4, h⟩ := bd_some h
    refine cl_Vi (rest := []) F hK hP hD hS hA hl (t_X8_finds l D cyI cyJ cyZ cyB cyO aM aM_found aM_d aM_e aM_f aM_kept aM_tape aM_came aM_got aM_held aM_off aM_comesUp aM_comesDown aM_path aM_gets aM_gotNow aM_bitsOf aM_sizeOf aM_number aM_passing vM_isKept vM_taped vM_leaked vM_keptAll vM_offAll vM_up vM_down vM_sharesUp vM_sharesDown vM_onUp vM_onDown vM_great vM_triedOff vM_triedLeaked vM_triedKept vM_fitting vM_firstSet vM_inAll vM_inAny vM_at vM_sort vM_from vM_value vM_fault cM_found u1 u4 hu4) (cwV 1 hts gX8_chips_X8_finds rfl rfl rfl (by decide +kernel) ⟨Nat.le_of_ble_eq_true rfl, Nat.le_of_ble_eq_true rfl⟩) 0 [0, 10] [1, 0, 0, 0, 0, 0, 0, 0, 0, 0, 2] [] (w_X8_chips cyI cyJ cyZ cyB cyO aM aM_bitsOf aM_d aM_e aM_came aM_got aM_held aM_off aM_sizeOf aM_number aM_found aM_f aM_kept aM_tape aM_comesUp aM_comesDown aM_path aM_gets aM_gotNow aM_passing vM_isKept vM_taped vM_leaked vM_keptAll vM_offAll vM_up vM_down vM_sharesUp vM_sharesDown vM_onUp vM_onDown vM_great vM_triedOff vM_triedLeaked vM_triedKept vM_fitting vM_firstSet vM_inAll vM_inAny vM_at vM_sort vM_from vM_value vM_fault cM_bitsOf cM_d cM_e cM_came cM_got cM_held cM_off cM_sizeOf cM_number u4.2) rfl rfl rfl rfl rfl (by decide +kernel) rfl rfl (Nat.le_of_ble_eq_true rfl) ⟨Nat.zero_le _, Nat.zero_le _⟩ dX8_chips_12 (fun H locs hP hD hS => ?_)
    obtain rfl := Option.some.inj h
    exact hret _ _ _ _ _ hP hD hS dX8_chips_15 rfl rfl
/-! ===== X8_chipped ===== -/
def w_X8_chipped (cyI cyJ cyZ cyB cyO : ClassId) (aM aM_bitsOf aM_d aM_e aM_came aM_got aM_held aM_off aM_sizeOf aM_number aM_found aM_f aM_kept aM_tape aM_comesUp aM_comesDown aM_path aM_gets aM_gotNow aM_passing : Nat) (vM_isKept : Int32) (vM_taped : Int32) (vM_leaked : Int32) (vM_keptAll : Int32) (vM_offAll : Int32) (vM_up : Int64) (vM_down : Int64) (vM_sharesUp : Int64) (vM_sharesDown : Int64) (vM_onUp : Int64) (vM_onDown : Int64) (vM_great : Int32) (vM_triedOff : Int32) (vM_triedLeaked : Int32) (vM_triedKept : Int32) (vM_fitting : Int32) (vM_firstSet : Int32) (vM_inAll : Int32) (vM_inAny : Int32) (vM_at : Int32) (vM_sort : Int32) (vM_from : Int32) (vM_value : Int64) (vM_fault : Int32) (cM_bitsOf : Nat → Int32) (cM_d : Nat → Int32) (cM_e : Nat → Int32) (cM_came : Nat → Int32) (cM_got : Nat → Int32) (cM_held : Nat → Int32) (cM_off : Nat → Int32) (cM_sizeOf : Nat → Int32) (cM_number : Nat → Int32) (cM_found : Nat → Int32) : va_W := [(aM, .inr (7, [.ref aM_d, .ref aM_e, .ref aM_f, .ref aM_kept, .int vM_isKept, .ref aM_found, .ref aM_tape, .int vM_taped, .ref aM_came, .ref aM_got, .ref aM_held, .ref aM_off, .int vM_leaked, .int vM_keptAll, .int vM_offAll, .ref aM_comesUp, .ref aM_comesDown, .long vM_up, .long vM_down, .long vM_sharesUp, .long vM_sharesDown, .long vM_onUp, .long vM_onDown, .int vM_great, .ref aM_path, .ref aM_gets, .int vM_triedOff, .int vM_triedLeaked, .int vM_triedKept, .ref aM_gotNow, .int vM_fitting, .int vM_firstSet, .int vM_inAll, .int vM_inAny, .int vM_at, .int vM_sort, .int vM_from, .long vM_value, .int vM_fault, .ref aM_bitsOf, .ref aM_sizeOf, .ref aM_number, .ref aM_passing])), (aM_bitsOf, .inl (cyI, 4, .inl cM_bitsOf)), (aM_d, .inl (cyI, 64, .inl cM_d)), (aM_e, .inl (cyI, 64, .inl cM_e)), (aM_came, .inl (cyI, 10, .inl cM_came)), (aM_got, .inl (cyI, 10, .inl cM_got)), (aM_held, .inl (cyI, 10, .inl cM_held)), (aM_off, .inl (cyI, 10, .inl cM_off)), (aM_sizeOf, .inl (cyI, 4, .inl cM_sizeOf)), (aM_number, .inl (cyI, 160, .inl cM_number)), (aM_found, .inl (cyI, 7, .inl cM_found))]
set_option maxHeartbeats 4000000 in
set_option maxRecDepth 100000 in
theorem t_X8_chipped (l : Launch) (D : va_G) (cyI cyJ cyZ cyB cyO : ClassId) (aM aM_bitsOf aM_d aM_e aM_came aM_got aM_held aM_off aM_sizeOf aM_number aM_found aM_f aM_kept aM_tape aM_comesUp aM_comesDown aM_path aM_gets aM_gotNow aM_passing : Nat) (vM_isKept : Int32) (vM_taped : Int32) (vM_leaked : Int32) (vM_keptAll : Int32) (vM_offAll : Int32) (vM_up : Int64) (vM_down : Int64) (vM_sharesUp : Int64) (vM_sharesDown : Int64) (vM_onUp : Int64) (vM_onDown : Int64) (vM_great : Int32) (vM_triedOff : Int32) (vM_triedLeaked : Int32) (vM_triedKept : Int32) (vM_fitting : Int32) (vM_firstSet : Int32) (vM_inAll : Int32) (vM_inAny : Int32) (vM_at : Int32) (vM_sort : Int32) (vM_from : Int32) (vM_value : Int64) (vM_fault : Int32) (cM_bitsOf : Nat → Int32) (cM_d : Nat → Int32) (cM_e : Nat → Int32) (cM_came : Nat → Int32) (cM_got : Nat → Int32) (cM_held : Nat → Int32) (cM_off : Nat → Int32) (cM_sizeOf : Nat → Int32) (cM_number : Nat → Int32) (cM_found : Nat → Int32) (x1 : Int32) (x2 : Int32) (out : Int32 × Int32 × Int32 × Int32 × Int32 × Int32 × Int32 × Int32 × (Nat → Int32) × (Nat → Int32) × (Nat → Int32) × (Nat → Int32) × (Nat → Int32) × (Nat → Int32) × (Nat → Int32)) (h : f_X8_chipped x1 x2 vM_leaked vM_keptAll vM_offAll vM_fitting vM_firstSet vM_inAll vM_inAny cM_bitsOf cM_d cM_e cM_came cM_got cM_held cM_off cM_sizeOf cM_number cM_found = some out) : Mi l yX8_chipped wsX8_chipped ({ frames := 4, cells := 0, slots := 0, locals := 98 } : Room) D (tyA cyI cyJ cyZ cyB cyO) [.ref aM, .int x1, .int x2] (w_X8_chipped cyI cyJ cyZ cyB cyO aM aM_bitsOf aM_d aM_e aM_came aM_got aM_held aM_off aM_sizeOf aM_number aM_found aM_f aM_kept aM_tape aM_comesUp aM_comesDown aM_path aM_gets aM_gotNow aM_passing vM_isKept vM_taped vM_leaked vM_keptAll vM_offAll vM_up vM_down vM_sharesUp vM_sharesDown vM_onUp vM_onDown vM_great vM_triedOff vM_triedLeaked vM_triedKept vM_fitting vM_firstSet vM_inAll vM_inAny vM_at vM_sort vM_from vM_value vM_fault cM_bitsOf cM_d cM_e cM_came cM_got cM_held cM_off cM_sizeOf cM_number cM_found) (w_X8_chipped cyI cyJ cyZ cyB cyO aM aM_bitsOf aM_d aM_e aM_came aM_got aM_held aM_off aM_sizeOf aM_number aM_found aM_f aM_kept aM_tape aM_comesUp aM_comesDown aM_path aM_gets aM_gotNow aM_passing vM_isKept vM_taped out.2.1 out.2.2.1 out.2.2.2.1 vM_up vM_down vM_sharesUp vM_sharesDown vM_onUp vM_onDown vM_great vM_triedOff vM_triedLeaked vM_triedKept out.2.2.2.2.1 out.2.2.2.2.2.1 out.2.2.2.2.2.2.1 out.2.2.2.2.2.2.2.1 vM_at vM_sort vM_from vM_value vM_fault cM_bitsOf out.2.2.2.2.2.2.2.2.1 out.2.2.2.2.2.2.2.2.2.1 out.2.2.2.2.2.2.2.2.2.2.1 out.2.2.2.2.2.2.2.2.2.2.2.1 out.2.2.2.2.2.2.2.2.2.2.2.2.1 out.2.2.2.2.2.2.2.2.2.2.2.2.2.1 cM_sizeOf cM_number out.2.2.2.2.2.2.2.2.2.2.2.2.2.2) out.1 := by
  refine Mi.mk (cc := cX8_chipped) (maxL := 4) (rt := .int) (own := RX8) (by decide) rfl rfl (Nat.le_of_ble_eq_true rfl) ?_
  intro p e s m args below meth c A Q F hK hP hD hA hret ls hl
  obtain ⟨hx, hb, hml, hown, hts⟩ := id F
  have hS : va_S A s.heap s.heap [] := va_S.rf
  have hl : lv_has ls 4 [(0, .ref aM), (1, .int x1), (2, .int x2)] := hl
  have in_X8 : ∀ w ∈ wsX80, w ∈ wsX8_chipped := by decide +kernel
  have q1 := hts (Cond.constantLong RX8 156 (2)) (List.mem_of_getElem? (i := 1) rfl)
  have q6 := hts (Cond.methodLink RX8 70 yX8_in) (List.mem_of_getElem? (i := 6) rfl)
  have q16 := hts (Cond.methodLink RX8 261 yX8_whyNone) (List.mem_of_getElem? (i := 16) rfl)
  have q25 := hts (Cond.methodLink RX8 264 yX8_findChips) (List.mem_of_getElem? (i := 25) rfl)
  have q2 := hts (Cond.fieldLink RX8 249 "ThirdFountainModel" "fitting" "I") (List.mem_of_getElem? (i := 2) rfl)
  have q5 := hts (Cond.fieldLink RX8 258 "ThirdFountainModel" "inAny" "I") (List.mem_of_getElem? (i := 5) rfl)
  have q4 := hts (Cond.fieldLink RX8 255 "ThirdFountainModel" "inAll" "I") (List.mem_of_getElem? (i := 4) rfl)
  have q3 := hts (Cond.fieldLink RX8 252 "ThirdFountainModel" "firstSet" "I") (List.mem_of_getElem? (i := 3) rfl)
  have q10 := hts (Cond.methodLink RX8 115 yX8_finds) (List.mem_of_getElem? (i := 10) rfl)
  unfold f_X8_chipped at h
  refine lv_iload_n hx hb dX8_chipped_0 rfl (lv_at hl 2 rfl) ?_
  refine lv_i2l hx hb dX8_chipped_1 rfl ?_
  refine lv_lconst (v := 0) hx hb dX8_chipped_2 (by decide) ?_
  refine lv_ldc2 (v := 2) hx hb hown q1 dX8_chipped_3 ?_
  obtain ⟨u1, hu1, h⟩ := bd_some h
  refine cl_Si (rest := []) F hK hP hD hS hA hl (t_X8_in l D cyI cyJ cyZ cyB cyO x2.toInt64 (0 : Int64) (2 : Int64) u1 hu1) (va_cwS 3 hts gX8_chipped_X8_in rfl rfl rfl (by decide +kernel) ⟨Nat.le_of_ble_eq_true rfl, Nat.le_of_ble_eq_true rfl⟩) [] [0, 0, 0, 0, 0, 0, 0, 0, 0, 0, 0] [] (w_X8_chipped cyI cyJ cyZ cyB cyO aM aM_bitsOf aM_d aM_e aM_came aM_got aM_held aM_off aM_sizeOf aM_number aM_found aM_f aM_kept aM_tape aM_comesUp aM_comesDown aM_path aM_gets aM_gotNow aM_passing vM_isKept vM_taped vM_leaked vM_keptAll vM_offAll vM_up vM_down vM_sharesUp vM_sharesDown vM_onUp vM_onDown vM_great vM_triedOff vM_triedLeaked vM_triedKept vM_fitting vM_firstSet vM_inAll vM_inAny vM_at vM_sort vM_from vM_value vM_fault cM_bitsOf cM_d cM_e cM_came cM_got cM_held cM_off cM_sizeOf cM_number cM_found) rfl rfl rfl (by decide +kernel) rfl rfl (Nat.le_of_ble_eq_true rfl) ⟨Nat.zero_le _, Nat.zero_le _⟩ dX8_chipped_6 (fun H locs hP hD hS => ?_)
  refine lv_if_ne (tgt := 18) hx hb dX8_chipped_9 (by decide) (fun c2 => ?_) (fun c2 => ?_)
  · have h := br_neg c2 h
    refine lv_aload_n hx hb dX8_chipped_18 rfl (lv_at hl 0 rfl) ?_
    refine lv_iload_n hx hb dX8_chipped_19 rfl (lv_at hl 1 rfl) ?_
    obtain ⟨u3, hu3, h⟩ := bd_some h
    refine cl_Vi (rest := []) F hK hP hD hS hA hl (t_X8_whyNone l D cyI cyJ cyZ cyB cyO aM aM_bitsOf aM_d aM_e aM_f aM_kept aM_found aM_tape aM_came aM_got aM_held aM_off aM_comesUp aM_comesDown aM_path aM_gets aM_gotNow aM_sizeOf aM_number aM_passing vM_isKept vM_taped vM_leaked vM_keptAll vM_offAll vM_up vM_down vM_sharesUp vM_sharesDown vM_onUp vM_onDown vM_great vM_triedOff vM_triedLeaked vM_triedKept vM_fitting vM_firstSet vM_inAll vM_inAny vM_at vM_sort vM_from vM_value vM_fault cM_bitsOf x1 u3 hu3) (cwV 1 hts gX8_chipped_X8_whyNone rfl rfl rfl (by decide +kernel) ⟨Nat.le_of_ble_eq_true rfl, Nat.le_of_ble_eq_true rfl⟩) 0 [0, 1] [1, 2, 0, 0, 0, 0, 0, 0, 0, 0, 0] [] (w_X8_chipped cyI cyJ cyZ cyB cyO aM aM_bitsOf aM_d aM_e aM_came aM_got aM_held aM_off aM_sizeOf aM_number aM_found aM_f aM_kept aM_tape aM_comesUp aM_comesDown aM_path aM_gets aM_gotNow aM_passing vM_isKept vM_taped vM_leaked vM_keptAll vM_offAll vM_up vM_down vM_sharesUp vM_sharesDown vM_onUp vM_onDown vM_great vM_triedOff vM_triedLeaked vM_triedKept vM_fitting vM_firstSet vM_inAll vM_inAny vM_at vM_sort vM_from vM_value vM_fault cM_bitsOf cM_d cM_e cM_came cM_got cM_held cM_off cM_sizeOf cM_number cM_found) rfl rfl rfl rfl rfl (by decide +kernel) rfl rfl (Nat.le_of_ble_eq_true rfl) ⟨Nat.zero_le _, Nat.zero_le _⟩ dX8_chipped_20 (fun H locs hP hD hS => ?_)
    refine lv_istore_n (lv' := [(3, .int u3), (0, .ref aM), (1, .int x1), (2, .int x2)]) hx hb dX8_chipped_23 rfl hl (by decide) rfl (fun ls hl => ?_)
    refine lv_iload_n hx hb dX8_chipped_24 rfl (lv_at hl 0 rfl) ?_
    refine lv_if_lt (tgt := 34) hx hb dX8_chipped_25 (by decide) (fun c4 => ?_) (fun c4 => ?_)
    · have h := br_pos c4 h
      refine lv_aload_n hx hb dX8_chipped_34 rfl (lv_at hl 1 rfl) ?_
      refine lv_iload_n hx hb dX8_chipped_35 rfl (lv_at hl 2 rfl) ?_
      obtain ⟨u5, hu5, h⟩ := bd_some h
      refine cl_Vv (rest := []) F hK hP hD hS hA hl (t_X8_findChips l D cyI cyJ cyZ cyB cyO aM aM_d aM_e aM_came aM_got aM_held aM_off aM_sizeOf aM_number aM_f aM_kept aM_found aM_tape aM_comesUp aM_comesDown aM_path aM_gets aM_gotNow aM_bitsOf aM_passing vM_isKept vM_taped vM_leaked vM_keptAll vM_offAll vM_up vM_down vM_sharesUp vM_sharesDown vM_onUp vM_onDown vM_great vM_triedOff vM_triedLeaked vM_triedKept vM_fitting vM_firstSet vM_inAll vM_inAny vM_at vM_sort vM_from vM_value vM_fault cM_d cM_e cM_came cM_got cM_held cM_off cM_sizeOf cM_number x1 u5 hu5) (cwV 1 hts gX8_chipped_X8_findChips rfl rfl rfl (by decide +kernel) ⟨Nat.le_of_ble_eq_true rfl, Nat.le_of_ble_eq_true rfl⟩) 0 [0, 2, 3, 4, 5, 6, 7, 8, 9] [1, 0, 2, 3, 4, 5, 6, 7, 8, 9, 0] [] (w_X8_chipped cyI cyJ cyZ cyB cyO aM aM_bitsOf aM_d aM_e aM_came aM_got aM_held aM_off aM_sizeOf aM_number aM_found aM_f aM_kept aM_tape aM_comesUp aM_comesDown aM_path aM_gets aM_gotNow aM_passing vM_isKept vM_taped u5.1 u5.2.1 u5.2.2.1 vM_up vM_down vM_sharesUp vM_sharesDown vM_onUp vM_onDown vM_great vM_triedOff vM_triedLeaked vM_triedKept u5.2.2.2.1 u5.2.2.2.2.1 u5.2.2.2.2.2.1 u5.2.2.2.2.2.2.1 vM_at vM_sort vM_from vM_value vM_fault cM_bitsOf u5.2.2.2.2.2.2.2.1 u5.2.2.2.2.2.2.2.2.1 u5.2.2.2.2.2.2.2.2.2.1 u5.2.2.2.2.2.2.2.2.2.2.1 u5.2.2.2.2.2.2.2.2.2.2.2.1 u5.2.2.2.2.2.2.2.2.2.2.2.2 cM_sizeOf cM_number cM_found) rfl rfl rfl rfl rfl (by decide +kernel) rfl rfl (Nat.le_of_ble_eq_true rfl) ⟨Nat.zero_le _, Nat.zero_le _⟩ dX8_chipped_36 (fun H locs hP hD hS => ?_)
      refine lv_aload_n hx hb dX8_chipped_39 rfl (lv_at hl 1 rfl) ?_
      refine va_get (D := D) (ci := 7) (v := .int u5.2.2.2.1) (C := RX8) (T := TX8) (N := 43) hx hb hts in_X8 hown hK hP 0 rfl rfl 30 (by decide) q2 (fun _ h9 => h9) rfl dX8_chipped_40 ?_
      refine lv_if_ne (tgt := 54) hx hb dX8_chipped_43 (by decide) (fun c6 => ?_) (fun c6 => ?_)
      · have h := br_neg c6 h
        refine lv_iload_n hx hb dX8_chipped_54 rfl (lv_at hl 3 rfl) ?_
        refine lv_if_ne (tgt := 65) hx hb dX8_chipped_55 (by decide) (fun c7 => ?_) (fun c7 => ?_)
        · have h := br_neg c7 h
          refine lv_iload_n hx hb dX8_chipped_65 rfl (lv_at hl 3 rfl) ?_
          refine lv_iconst (v := 1) hx hb dX8_chipped_66 (by decide) ?_
          refine lv_icmp_ne (tgt := 77) hx hb dX8_chipped_67 (by decide) (fun c8 => ?_) (fun c8 => ?_)
          · have h := br_neg c8 h
            refine lv_aload_n hx hb dX8_chipped_77 rfl (lv_at hl 1 rfl) ?_
            refine va_get (D := D) (ci := 7) (v := .int u5.2.2.2.2.2.2.1) (C := RX8) (T := TX8) (N := 43) hx hb hts in_X8 hown hK hP 0 rfl rfl 33 (by decide) q5 (fun _ h9 => h9) rfl dX8_chipped_78 ?_
            obtain rfl := Option.some.inj h
            exact hret _ _ _ _ _ hP hD hS dX8_chipped_81 rfl rfl
          · have h := br_pos c8 h
            refine lv_aload_n hx hb dX8_chipped_70 rfl (lv_at hl 1 rfl) ?_
            refine va_get (D := D) (ci := 7) (v := .int u5.2.2.2.2.2.1) (C := RX8) (T := TX8) (N := 43) hx hb hts in_X8 hown hK hP 0 rfl rfl 32 (by decide) q4 (fun _ h9 => h9) rfl dX8_chipped_71 ?_
            refine lv_goto (tgt := 81) hx hb dX8_chipped_74 (by decide) ?_
            obtain rfl := Option.some.inj h
            exact hret _ _ _ _ _ hP hD hS dX8_chipped_81 rfl rfl
        · have h := br_pos c7 h
          refine lv_aload_n hx hb dX8_chipped_58 rfl (lv_at hl 1 rfl) ?_
          refine va_get (D := D) (ci := 7) (v := .int u5.2.2.2.2.1) (C := RX8) (T := TX8) (N := 43) hx hb hts in_X8 hown hK hP 0 rfl rfl 31 (by decide) q3 (fun _ h9 => h9) rfl dX8_chipped_59 ?_
          refine lv_goto (tgt := 81) hx hb dX8_chipped_62 (by decide) ?_
          obtain rfl := Option.some.inj h
          exact hret _ _ _ _ _ hP hD hS dX8_chipped_81 rfl rfl
      · have h := br_pos c6 h
        refine lv_aload_n hx hb dX8_chipped_46 rfl (lv_at hl 1 rfl) ?_
        refine lv_iconst (v := 3) hx hb dX8_chipped_47 (by decide) ?_
        obtain ⟨u9, hu9, h⟩ := bd_some h
        refine cl_Vi (rest := []) F hK hP hD hS hA hl (t_X8_finds l D cyI cyJ cyZ cyB cyO aM aM_found aM_d aM_e aM_f aM_kept aM_tape aM_came aM_got aM_held aM_off aM_comesUp aM_comesDown aM_path aM_gets aM_gotNow aM_bitsOf aM_sizeOf aM_number aM_passing vM_isKept vM_taped u5.1 u5.2.1 u5.2.2.1 vM_up vM_down vM_sharesUp vM_sharesDown vM_onUp vM_onDown vM_great vM_triedOff vM_triedLeaked vM_triedKept u5.2.2.2.1 u5.2.2.2.2.1 u5.2.2.2.2.2.1 u5.2.2.2.2.2.2.1 vM_at vM_sort vM_from vM_value vM_fault cM_found (3 : Int32) u9 hu9) (cwV 1 hts gX8_chipped_X8_finds rfl rfl rfl (by decide +kernel) ⟨Nat.le_of_ble_eq_true rfl, Nat.le_of_ble_eq_true rfl⟩) 0 [0, 10] [1, 0, 0, 0, 0, 0, 0, 0, 0, 0, 2] [] (w_X8_chipped cyI cyJ cyZ cyB cyO aM aM_bitsOf aM_d aM_e aM_came aM_got aM_held aM_off aM_sizeOf aM_number aM_found aM_f aM_kept aM_tape aM_comesUp aM_comesDown aM_path aM_gets aM_gotNow aM_passing vM_isKept vM_taped u5.1 u5.2.1 u5.2.2.1 vM_up vM_down vM_sharesUp vM_sharesDown vM_onUp vM_onDown vM_great vM_triedOff vM_triedLeaked vM_triedKept u5.2.2.2.1 u5.2.2.2.2.1 u5.2.2.2.2.2.1 u5.2.2.2.2.2.2.1 vM_at vM_sort vM_from vM_value vM_fault cM_bitsOf u5.2.2.2.2.2.2.2.1 u5.2.2.2.2.2.2.2.2.1 u5.2.2.2.2.2.2.2.2.2.1 u5.2.2.2.2.2.2.2.2.2.2.1 u5.2.2.2.2.2.2.2.2.2.2.2.1 u5.2.2.2.2.2.2.2.2.2.2.2.2 cM_sizeOf cM_number u9.2) rfl rfl rfl rfl rfl (by decide +kernel) rfl rfl (Nat.le_of_ble_eq_true rfl) ⟨Nat.zero_le _, Nat.zero_le _⟩ dX8_chipped_48 (fun H locs hP hD hS => ?_)
        refine lv_goto (tgt := 81) hx hb dX8_chipped_51 (by decide) ?_
        obtain rfl := Option.some.inj h
        exact hret _ _ _ _ _ hP hD hS dX8_chipped_81 rfl rfl
    · have h := br_neg c4 h
      refine lv_aload_n hx hb dX8_chipped_28 rfl (lv_at hl 1 rfl) ?_
      refine lv_iload_n hx hb dX8_chipped_29 rfl (lv_at hl 0 rfl) ?_
      obtain ⟨u10, hu10, h⟩ := bd_some h
      refine cl_Vi (rest := []) F hK hP hD hS hA hl (t_X8_finds l D cyI cyJ cyZ cyB cyO aM aM_found aM_d aM_e aM_f aM_kept aM_tape aM_came aM_got aM_held aM_off aM_comesUp aM_comesDown aM_path aM_gets aM_gotNow aM_bitsOf aM_sizeOf aM_number aM_passing vM_isKept vM_taped vM_leaked vM_keptAll vM_offAll vM_up vM_down vM_sharesUp vM_sharesDown vM_onUp vM_onDown vM_great vM_triedOff vM_triedLeaked vM_triedKept vM_fitting vM_firstSet vM_inAll vM_inAny vM_at vM_sort vM_from vM_value vM_fault cM_found u3 u10 hu10) (cwV 1 hts gX8_chipped_X8_finds rfl rfl rfl (by decide +kernel) ⟨Nat.le_of_ble_eq_true rfl, Nat.le_of_ble_eq_true rfl⟩) 0 [0, 10] [1, 0, 0, 0, 0, 0, 0, 0, 0, 0, 2] [] (w_X8_chipped cyI cyJ cyZ cyB cyO aM aM_bitsOf aM_d aM_e aM_came aM_got aM_held aM_off aM_sizeOf aM_number aM_found aM_f aM_kept aM_tape aM_comesUp aM_comesDown aM_path aM_gets aM_gotNow aM_passing vM_isKept vM_taped vM_leaked vM_keptAll vM_offAll vM_up vM_down vM_sharesUp vM_sharesDown vM_onUp vM_onDown vM_great vM_triedOff vM_triedLeaked vM_triedKept vM_fitting vM_firstSet vM_inAll vM_inAny vM_at vM_sort vM_from vM_value vM_fault cM_bitsOf cM_d cM_e cM_came cM_got cM_held cM_off cM_sizeOf cM_number u10.2) rfl rfl rfl rfl rfl (by decide +kernel) rfl rfl (Nat.le_of_ble_eq_true rfl) ⟨Nat.zero_le _, Nat.zero_le _⟩ dX8_chipped_30 (fun H locs hP hD hS => ?_)
      obtain rfl := Option.some.inj h
      exact hret _ _ _ _ _ hP hD hS dX8_chipped_33 rfl rfl
  · have h := br_pos c2 h
    refine lv_aload_n hx hb dX8_chipped_12 rfl (lv_at hl 0 rfl) ?_
    refine lv_iconst (v := 0) hx hb dX8_chipped_13 (by decide) ?_
    obtain ⟨u11, hu11, h⟩ := bd_some h
    refine cl_Vi (rest := []) F hK hP hD hS hA hl (t_X8_finds l D cyI cyJ cyZ cyB cyO aM aM_found aM_d aM_e aM_f aM_kept aM_tape aM_came aM_got aM_held aM_off aM_comesUp aM_comesDown aM_path aM_gets aM_gotNow aM_bitsOf aM_sizeOf aM_number aM_passing vM_isKept vM_taped vM_leaked vM_keptAll vM_offAll vM_up vM_down vM_sharesUp vM_sharesDown vM_onUp vM_onDown vM_great vM_triedOff vM_triedLeaked vM_triedKept vM_fitting vM_firstSet vM_inAll vM_inAny vM_at vM_sort vM_from vM_value vM_fault cM_found (0 : Int32) u11 hu11) (cwV 1 hts gX8_chipped_X8_finds rfl rfl rfl (by decide +kernel) ⟨Nat.le_of_ble_eq_true rfl, Nat.le_of_ble_eq_true rfl⟩) 0 [0, 10] [1, 0, 0, 0, 0, 0, 0, 0, 0, 0, 2] [] (w_X8_chipped cyI cyJ cyZ cyB cyO aM aM_bitsOf aM_d aM_e aM_came aM_got aM_held aM_off aM_sizeOf aM_number aM_found aM_f aM_kept aM_tape aM_comesUp aM_comesDown aM_path aM_gets aM_gotNow aM_passing vM_isKept vM_taped vM_leaked vM_keptAll vM_offAll vM_up vM_down vM_sharesUp vM_sharesDown vM_onUp vM_onDown vM_great vM_triedOff vM_triedLeaked vM_triedKept vM_fitting vM_firstSet vM_inAll vM_inAny vM_at vM_sort vM_from vM_value vM_fault cM_bitsOf cM_d cM_e cM_came cM_got cM_held cM_off cM_sizeOf cM_number u11.2) rfl rfl rfl rfl rfl (by decide +kernel) rfl rfl (Nat.le_of_ble_eq_true rfl) ⟨Nat.zero_le _, Nat.zero_le _⟩ dX8_chipped_14 (fun H locs hP hD hS => ?_)
    obtain rfl := Option.some.inj h
    exact hret _ _ _ _ _ hP hD hS dX8_chipped_17 rfl rfl
/-! ===== X8_truly ===== -/
def w_X8_truly (cyI cyJ cyZ cyB cyO : ClassId) (aM aM_d aM_found aM_came aM_got aM_held aM_off aM_e aM_f aM_kept aM_tape aM_comesUp aM_comesDown aM_path aM_gets aM_gotNow aM_bitsOf aM_sizeOf aM_number aM_passing : Nat) (vM_isKept : Int32) (vM_taped : Int32) (vM_leaked : Int32) (vM_keptAll : Int32) (vM_offAll : Int32) (vM_up : Int64) (vM_down : Int64) (vM_sharesUp : Int64) (vM_sharesDown : Int64) (vM_onUp : Int64) (vM_onDown : Int64) (vM_great : Int32) (vM_triedOff : Int32) (vM_triedLeaked : Int32) (vM_triedKept : Int32) (vM_fitting : Int32) (vM_firstSet : Int32) (vM_inAll : Int32) (vM_inAny : Int32) (vM_at : Int32) (vM_sort : Int32) (vM_from : Int32) (vM_value : Int64) (vM_fault : Int32) (cM_d : Nat → Int32) (cM_found : Nat → Int32) (cM_came : Nat → Int32) (cM_got : Nat → Int32) (cM_held : Nat → Int32) (cM_off : Nat → Int32) : va_W := [(aM, .inr (7, [.ref aM_d, .ref aM_e, .ref aM_f, .ref aM_kept, .int vM_isKept, .ref aM_found, .ref aM_tape, .int vM_taped, .ref aM_came, .ref aM_got, .ref aM_held, .ref aM_off, .int vM_leaked, .int vM_keptAll, .int vM_offAll, .ref aM_comesUp, .ref aM_comesDown, .long vM_up, .long vM_down, .long vM_sharesUp, .long vM_sharesDown, .long vM_onUp, .long vM_onDown, .int vM_great, .ref aM_path, .ref aM_gets, .int vM_triedOff, .int vM_triedLeaked, .int vM_triedKept, .ref aM_gotNow, .int vM_fitting, .int vM_firstSet, .int vM_inAll, .int vM_inAny, .int vM_at, .int vM_sort, .int vM_from, .long vM_value, .int vM_fault, .ref aM_bitsOf, .ref aM_sizeOf, .ref aM_number, .ref aM_passing])), (aM_d, .inl (cyI, 64, .inl cM_d)), (aM_found, .inl (cyI, 7, .inl cM_found)), (aM_came, .inl (cyI, 10, .inl cM_came)), (aM_got, .inl (cyI, 10, .inl cM_got)), (aM_held, .inl (cyI, 10, .inl cM_held)), (aM_off, .inl (cyI, 10, .inl cM_off))]
set_option maxHeartbeats 4000000 in
set_option maxRecDepth 100000 in
theorem t_X8_truly (l : Launch) (D : va_G) (cyI cyJ cyZ cyB cyO : ClassId) (aM aM_d aM_found aM_came aM_got aM_held aM_off aM_e aM_f aM_kept aM_tape aM_comesUp aM_comesDown aM_path aM_gets aM_gotNow aM_bitsOf aM_sizeOf aM_number aM_passing : Nat) (vM_isKept : Int32) (vM_taped : Int32) (vM_leaked : Int32) (vM_keptAll : Int32) (vM_offAll : Int32) (vM_up : Int64) (vM_down : Int64) (vM_sharesUp : Int64) (vM_sharesDown : Int64) (vM_onUp : Int64) (vM_onDown : Int64) (vM_great : Int32) (vM_triedOff : Int32) (vM_triedLeaked : Int32) (vM_triedKept : Int32) (vM_fitting : Int32) (vM_firstSet : Int32) (vM_inAll : Int32) (vM_inAny : Int32) (vM_at : Int32) (vM_sort : Int32) (vM_from : Int32) (vM_value : Int64) (vM_fault : Int32) (cM_d : Nat → Int32) (cM_found : Nat → Int32) (cM_came : Nat → Int32) (cM_got : Nat → Int32) (cM_held : Nat → Int32) (cM_off : Nat → Int32) (x1 : Int32) (x2 : Int32) (x3 : Int32) (out : Int32 × Int32 × Int32 × Int32 × (Nat → Int32) × (Nat → Int32) × (Nat → Int32) × (Nat → Int32) × (Nat → Int32) × (Nat → Int32)) (h : f_X8_truly x1 x2 x3 vM_leaked vM_keptAll vM_offAll cM_d cM_found cM_came cM_got cM_held cM_off = some out) : Mi l yX8_truly wsX8_truly ({ frames := 3, cells := 0, slots := 0, locals := 74 } : Room) D (tyA cyI cyJ cyZ cyB cyO) [.ref aM, .int x1, .int x2, .int x3] (w_X8_truly cyI cyJ cyZ cyB cyO aM aM_d aM_found aM_came aM_got aM_held aM_off aM_e aM_f aM_kept aM_tape aM_comesUp aM_comesDown aM_path aM_gets aM_gotNow aM_bitsOf aM_sizeOf aM_number aM_passing vM_isKept vM_taped vM_leaked vM_keptAll vM_offAll vM_up vM_down vM_sharesUp vM_sharesDown vM_onUp vM_onDown vM_great vM_triedOff vM_triedLeaked vM_triedKept vM_fitting vM_firstSet vM_inAll vM_inAny vM_at vM_sort vM_from vM_value vM_fault cM_d cM_found cM_came cM_got cM_held cM_off) (w_X8_truly cyI cyJ cyZ cyB cyO aM aM_d aM_found aM_came aM_got aM_held aM_off aM_e aM_f aM_kept aM_tape aM_comesUp aM_comesDown aM_path aM_gets aM_gotNow aM_bitsOf aM_sizeOf aM_number aM_passing vM_isKept vM_taped out.2.1 out.2.2.1 out.2.2.2.1 vM_up vM_down vM_sharesUp vM_sharesDown vM_onUp vM_onDown vM_great vM_triedOff vM_triedLeaked vM_triedKept vM_fitting vM_firstSet vM_inAll vM_inAny vM_at vM_sort vM_from vM_value vM_fault out.2.2.2.2.1 out.2.2.2.2.2.1 out.2.2.2.2.2.2.1 out.2.2.2.2.2.2.2.1 out.2.2.2.2.2.2.2.2.1 out.2.2.2.2.2.2.2.2.2) out.1 := by
  refine Mi.mk (cc := cX8_truly) (maxL := 7) (rt := .int) (own := RX8) (by decide) rfl rfl (Nat.le_of_ble_eq_true rfl) ?_
  intro p e s m args below meth c A Q F hK hP hD hA hret ls hl
  obtain ⟨hx, hb, hml, hown, hts⟩ := id F
  have hS : va_S A s.heap s.heap [] := va_S.rf
  have hl : lv_has ls 7 [(0, .ref aM), (1, .int x1), (2, .int x2), (3, .int x3)] := hl
  have in_X8 : ∀ w ∈ wsX80, w ∈ wsX8_truly := by decide +kernel
  have q4 := hts (Cond.methodLink RX8 109 yX8_isBasin) (List.mem_of_getElem? (i := 4) rfl)
  have q12 := hts (Cond.methodLink RX8 115 yX8_finds) (List.mem_of_getElem? (i := 12) rfl)
  have q1 := hts (Cond.constantLong RX8 267 (9999)) (List.mem_of_getElem? (i := 1) rfl)
  have q9 := hts (Cond.methodLink RX8 70 yX8_in) (List.mem_of_getElem? (i := 9) rfl)
  have q2 := hts (Cond.fieldLink RX8 7 "ThirdFountainModel" "d" "[I") (List.mem_of_getElem? (i := 2) rfl)
  have q18 := hts (Cond.methodLink RX8 102 yX8_look) (List.mem_of_getElem? (i := 18) rfl)
  have q3 := hts (Cond.fieldLink RX8 32 "ThirdFountainModel" "got" "[I") (List.mem_of_getElem? (i := 3) rfl)
  unfold f_X8_truly at h
  refine lv_aload_n hx hb dX8_truly_0 rfl (lv_at hl 0 rfl) ?_
  refine lv_iload_n hx hb dX8_truly_1 rfl (lv_at hl 1 rfl) ?_
  obtain ⟨u1, hu1, h⟩ := bd_some h
  refine cl_Vi (rest := []) F hK hP hD hS hA hl (t_X8_isBasin l D cyI cyJ cyZ cyB cyO aM aM_d aM_e aM_f aM_kept aM_found aM_tape aM_came aM_got aM_held aM_off aM_comesUp aM_comesDown aM_path aM_gets aM_gotNow aM_bitsOf aM_sizeOf aM_number aM_passing vM_isKept vM_taped vM_leaked vM_keptAll vM_offAll vM_up vM_down vM_sharesUp vM_sharesDown vM_onUp vM_onDown vM_great vM_triedOff vM_triedLeaked vM_triedKept vM_fitting vM_firstSet vM_inAll vM_inAny vM_at vM_sort vM_from vM_value vM_fault cM_d x1 u1 hu1) (cwV 1 hts gX8_truly_X8_isBasin rfl rfl rfl (by decide +kernel) ⟨Nat.le_of_ble_eq_true rfl, Nat.le_of_ble_eq_true rfl⟩) 0 [0, 1] [1, 2, 0, 0, 0, 0, 0] [] (w_X8_truly cyI cyJ cyZ cyB cyO aM aM_d aM_found aM_came aM_got aM_held aM_off aM_e aM_f aM_kept aM_tape aM_comesUp aM_comesDown aM_path aM_gets aM_gotNow aM_bitsOf aM_sizeOf aM_number aM_passing vM_isKept vM_taped vM_leaked vM_keptAll vM_offAll vM_up vM_down vM_sharesUp vM_sharesDown vM_onUp vM_onDown vM_great vM_triedOff vM_triedLeaked vM_triedKept vM_fitting vM_firstSet vM_inAll vM_inAny vM_at vM_sort vM_from vM_value vM_fault cM_d cM_found cM_came cM_got cM_held cM_off) rfl rfl rfl rfl rfl (by decide +kernel) rfl rfl (Nat.le_of_ble_eq_true rfl) ⟨Nat.zero_le _, Nat.zero_le _⟩ dX8_truly_2 (fun H locs hP hD hS => ?_)
  refine lv_if_eq (tgt := 30) hx hb dX8_truly_5 (by decide) (fun c2 => ?_) (fun c2 => ?_)
  · have h := br_pos c2 h
    refine lv_aload_n hx hb dX8_truly_30 rfl (lv_at hl 0 rfl) ?_
    refine lv_iconst (v := 0) hx hb dX8_truly_31 (by decide) ?_
    obtain ⟨u3, hu3, h⟩ := bd_some h
    refine cl_Vi (rest := []) F hK hP hD hS hA hl (t_X8_finds l D cyI cyJ cyZ cyB cyO aM aM_found aM_d aM_e aM_f aM_kept aM_tape aM_came aM_got aM_held aM_off aM_comesUp aM_comesDown aM_path aM_gets aM_gotNow aM_bitsOf aM_sizeOf aM_number aM_passing vM_isKept vM_taped vM_leaked vM_keptAll vM_offAll vM_up vM_down vM_sharesUp vM_sharesDown vM_onUp vM_onDown vM_great vM_triedOff vM_triedLeaked vM_triedKept vM_fitting vM_firstSet vM_inAll vM_inAny vM_at vM_sort vM_from vM_value vM_fault cM_found (0 : Int32) u3 hu3) (cwV 1 hts gX8_truly_X8_finds rfl rfl rfl (by decide +kernel) ⟨Nat.le_of_ble_eq_true rfl, Nat.le_of_ble_eq_true rfl⟩) 0 [0, 2] [1, 0, 2, 0, 0, 0, 0] [] (w_X8_truly cyI cyJ cyZ cyB cyO aM aM_d aM_found aM_came aM_got aM_held aM_off aM_e aM_f aM_kept aM_tape aM_comesUp aM_comesDown aM_path aM_gets aM_gotNow aM_bitsOf aM_sizeOf aM_number aM_passing vM_isKept vM_taped vM_leaked vM_keptAll vM_offAll vM_up vM_down vM_sharesUp vM_sharesDown vM_onUp vM_onDown vM_great vM_triedOff vM_triedLeaked vM_triedKept vM_fitting vM_firstSet vM_inAll vM_inAny vM_at vM_sort vM_from vM_value vM_fault cM_d u3.2 cM_came cM_got cM_held cM_off) rfl rfl rfl rfl rfl (by decide +kernel) rfl rfl (Nat.le_of_ble_eq_true rfl) ⟨Nat.zero_le _, Nat.zero_le _⟩ dX8_truly_32 (fun H locs hP hD hS => ?_)
    obtain rfl := Option.some.inj h
    exact hret _ _ _ _ _ hP hD hS dX8_truly_35 rfl rfl
  · have h := br_neg c2 h
    refine lv_iload_n hx hb dX8_truly_8 rfl (lv_at hl 2 rfl) ?_
    refine lv_i2l hx hb dX8_truly_9 rfl ?_
    refine lv_lconst (v := 0) hx hb dX8_truly_10 (by decide) ?_
    refine lv_ldc2 (v := 9999) hx hb hown q1 dX8_truly_11 ?_
    obtain ⟨u4, hu4, h⟩ := bd_some h
    refine cl_Si (rest := []) F hK hP hD hS hA hl (t_X8_in l D cyI cyJ cyZ cyB cyO x2.toInt64 (0 : Int64) (9999 : Int64) u4 hu4) (va_cwS 3 hts gX8_truly_X8_in rfl rfl rfl (by decide +kernel) ⟨Nat.le_of_ble_eq_true rfl, Nat.le_of_ble_eq_true rfl⟩) [] [0, 0, 0, 0, 0, 0, 0] [] (w_X8_truly cyI cyJ cyZ cyB cyO aM aM_d aM_found aM_came aM_got aM_held aM_off aM_e aM_f aM_kept aM_tape aM_comesUp aM_comesDown aM_path aM_gets aM_gotNow aM_bitsOf aM_sizeOf aM_number aM_passing vM_isKept vM_taped vM_leaked vM_keptAll vM_offAll vM_up vM_down vM_sharesUp vM_sharesDown vM_onUp vM_onDown vM_great vM_triedOff vM_triedLeaked vM_triedKept vM_fitting vM_firstSet vM_inAll vM_inAny vM_at vM_sort vM_from vM_value vM_fault cM_d cM_found cM_came cM_got cM_held cM_off) rfl rfl rfl (by decide +kernel) rfl rfl (Nat.le_of_ble_eq_true rfl) ⟨Nat.zero_le _, Nat.zero_le _⟩ dX8_truly_14 (fun H locs hP hD hS => ?_)
    refine lv_if_eq (tgt := 30) hx hb dX8_truly_17 (by decide) (fun c5 => ?_) (fun c5 => ?_)
    · have h := br_pos c5 h
      refine lv_aload_n hx hb dX8_truly_30 rfl (lv_at hl 0 rfl) ?_
      refine lv_iconst (v := 0) hx hb dX8_truly_31 (by decide) ?_
      obtain ⟨u6, hu6, h⟩ := bd_some h
      refine cl_Vi (rest := []) F hK hP hD hS hA hl (t_X8_finds l D cyI cyJ cyZ cyB cyO aM aM_found aM_d aM_e aM_f aM_kept aM_tape aM_came aM_got aM_held aM_off aM_comesUp aM_comesDown aM_path aM_gets aM_gotNow aM_bitsOf aM_sizeOf aM_number aM_passing vM_isKept vM_taped vM_leaked vM_keptAll vM_offAll vM_up vM_down vM_sharesUp vM_sharesDown vM_onUp vM_onDown vM_great vM_triedOff vM_triedLeaked vM_triedKept vM_fitting vM_firstSet vM_inAll vM_inAny vM_at vM_sort vM_from vM_value vM_fault cM_found (0 : Int32) u6 hu6) (cwV 1 hts gX8_truly_X8_finds rfl rfl rfl (by decide +kernel) ⟨Nat.le_of_ble_eq_true rfl, Nat.le_of_ble_eq_true rfl⟩) 0 [0, 2] [1, 0, 2, 0, 0, 0, 0] [] (w_X8_truly cyI cyJ cyZ cyB cyO aM aM_d aM_found aM_came aM_got aM_held aM_off aM_e aM_f aM_kept aM_tape aM_comesUp aM_comesDown aM_path aM_gets aM_gotNow aM_bitsOf aM_sizeOf aM_number aM_passing vM_isKept vM_taped vM_leaked vM_keptAll vM_offAll vM_up vM_down vM_sharesUp vM_sharesDown vM_onUp vM_onDown vM_great vM_triedOff vM_triedLeaked vM_triedKept vM_fitting vM_firstSet vM_inAll vM_inAny vM_at vM_sort vM_from vM_value vM_fault cM_d u6.2 cM_came cM_got cM_held cM_off) rfl rfl rfl rfl rfl (by decide +kernel) rfl rfl (Nat.le_of_ble_eq_true rfl) ⟨Nat.zero_le _, Nat.zero_le _⟩ dX8_truly_32 (fun H locs hP hD hS => ?_)
      obtain rfl := Option.some.inj h
      exact hret _ _ _ _ _ hP hD hS dX8_truly_35 rfl rfl
    · have h := br_neg c5 h
      refine lv_iload_n hx hb dX8_truly_20 rfl (lv_at hl 3 rfl) ?_
      refine lv_i2l hx hb dX8_truly_21 rfl ?_
      refine lv_lconst (v := 0) hx hb dX8_truly_22 (by decide) ?_
      refine lv_lconst (v := 1) hx hb dX8_truly_23 (by decide) ?_
      obtain ⟨u7, hu7, h⟩ := bd_some h
      refine cl_Si (rest := []) F hK hP hD hS hA hl (t_X8_in l D cyI cyJ cyZ cyB cyO x3.toInt64 (0 : Int64) (1 : Int64) u7 hu7) (va_cwS 3 hts gX8_truly_X8_in rfl rfl rfl (by decide +kernel) ⟨Nat.le_of_ble_eq_true rfl, Nat.le_of_ble_eq_true rfl⟩) [] [0, 0, 0, 0, 0, 0, 0] [] (w_X8_truly cyI cyJ cyZ cyB cyO aM aM_d aM_found aM_came aM_got aM_held aM_off aM_e aM_f aM_kept aM_tape aM_comesUp aM_comesDown aM_path aM_gets aM_gotNow aM_bitsOf aM_sizeOf aM_number aM_passing vM_isKept vM_taped vM_leaked vM_keptAll vM_offAll vM_up vM_down vM_sharesUp vM_sharesDown vM_onUp vM_onDown vM_great vM_triedOff vM_triedLeaked vM_triedKept vM_fitting vM_firstSet vM_inAll vM_inAny vM_at vM_sort vM_from vM_value vM_fault cM_d cM_found cM_came cM_got cM_held cM_off) rfl rfl rfl (by decide +kernel) rfl rfl (Nat.le_of_ble_eq_true rfl) ⟨Nat.zero_le _, Nat.zero_le _⟩ dX8_truly_24 (fun H locs hP hD hS => ?_)
      refine lv_if_ne (tgt := 36) hx hb dX8_truly_27 (by decide) (fun c8 => ?_) (fun c8 => ?_)
      · have h := br_neg c8 h
        refine lv_aload_n hx hb dX8_truly_36 rfl (lv_at hl 0 rfl) ?_
        refine va_get (D := D) (ci := 7) (v := .ref aM_d) (C := RX8) (T := TX8) (N := 43) hx hb hts in_X8 hown hK hP 0 rfl rfl 0 (by decide) q2 (fun _ h9 => h9) rfl dX8_truly_37 ?_
        refine lv_iconst (v := 3) hx hb dX8_truly_40 (by decide) ?_
        refine va_iald hx hb hK hP 1 0 rfl rfl (by unfold vp_in; decide) dX8_truly_41 ?_
        refine lv_topi (fun z9 ez9 => ?_)
        have h := nm_at ez9 h
        refine lv_istore (lv' := [(4, .int z9), (0, .ref aM), (1, .int x1), (2, .int x2), (3, .int x3)]) hx hb dX8_truly_42 hl (by decide) rfl (fun ls hl => ?_)
        refine lv_iconst (v := -1) hx hb dX8_truly_44 (by decide) ?_
        refine lv_istore (lv' := [(5, .int (-1 : Int32)), (4, .int z9), (0, .ref aM), (1, .int x1), (2, .int x2), (3, .int x3)]) hx hb dX8_truly_45 hl (by decide) rfl (fun ls hl => ?_)
        refine lv_iconst (v := 0) hx hb dX8_truly_47 (by decide) ?_
        refine lv_istore (lv' := [(6, .int (0 : Int32)), (5, .int (-1 : Int32)), (4, .int z9), (0, .ref aM), (1, .int x1), (2, .int x2), (3, .int x3)]) hx hb dX8_truly_48 hl (by decide) rfl (fun ls hl => ?_)
        have lp50 : ∀ (k50 : Nat) (y4 : Int32) (y5 : Int32) (y6 : Int32) (vM_leaked : Int32) (vM_keptAll : Int32) (vM_offAll : Int32) (cM_d : Nat → Int32) (cM_found : Nat → Int32) (cM_came : Nat → Int32) (cM_got : Nat → Int32) (cM_held : Nat → Int32) (cM_off : Nat → Int32) (H : Heap) (locs : List Loc) (ls : Array Slot), va_P D vwCl (w_X8_truly cyI cyJ cyZ cyB cyO aM aM_d aM_found aM_came aM_got aM_held aM_off aM_e aM_f aM_kept aM_tape aM_comesUp aM_comesDown aM_path aM_gets aM_gotNow aM_bitsOf aM_sizeOf aM_number aM_passing vM_isKept vM_taped vM_leaked vM_keptAll vM_offAll vM_up vM_down vM_sharesUp vM_sharesDown vM_onUp vM_onDown vM_great vM_triedOff vM_triedLeaked vM_triedKept vM_fitting vM_firstSet vM_inAll vM_inAny vM_at vM_sort vM_from vM_value vM_fault cM_d cM_found cM_came cM_got cM_held cM_off) H → va_D A (w_X8_truly cyI cyJ cyZ cyB cyO aM aM_d aM_found aM_came aM_got aM_held aM_off aM_e aM_f aM_kept aM_tape aM_comesUp aM_comesDown aM_path aM_gets aM_gotNow aM_bitsOf aM_sizeOf aM_number aM_passing vM_isKept vM_taped vM_leaked vM_keptAll vM_offAll vM_up vM_down vM_sharesUp vM_sharesDown vM_onUp vM_onDown vM_great vM_triedOff vM_triedLeaked vM_triedKept vM_fitting vM_firstSet vM_inAll vM_inAny vM_at vM_sort vM_from vM_value vM_fault cM_d cM_found cM_came cM_got cM_held cM_off) → va_S A s.heap H locs → lv_has ls 7 [(4, .int y4), (5, .int y5), (6, .int y6), (0, .ref aM), (1, .int x1), (2, .int x2), (3, .int x3)] → (f_X8_truly_L50 x1 x2 x3 k50) (y4, y5, y6, vM_leaked, vM_keptAll, vM_offAll, cM_d, cM_found, cM_came, cM_got, cM_held, cM_off) = some out → W p l e ({ frames := 3, cells := 0, slots := 0, locals := 74 } : Room) s m args below meth c H locs 0 0 Q (F0 m 50 ls []) := by
          intro k50
          induction k50 with
          | zero => intro y4 y5 y6 vM_leaked vM_keptAll vM_offAll cM_d cM_found cM_came cM_got cM_held cM_off H locs ls hP hD hS hl h; cases h
          | succ k50 ih50 =>
            intro y4 y5 y6 vM_leaked vM_keptAll vM_offAll cM_d cM_found cM_came cM_got cM_held cM_off H locs ls hP hD hS hl h
            have h : f_X8_truly_L50_b x1 x2 x3 (f_X8_truly_L50 x1 x2 x3 k50) y4 y5 y6 vM_leaked vM_keptAll vM_offAll cM_d cM_found cM_came cM_got cM_held cM_off = some out := h
            unfold f_X8_truly_L50_b at h
            refine lv_iload hx hb dX8_truly_50 (lv_at hl 2 rfl) ?_
            refine lv_sipush (v := 9999) hx hb dX8_truly_52 (by decide) ?_
            have j105 : ∀ (y4 : Int32) (y5 : Int32) (vM_leaked : Int32) (vM_keptAll : Int32) (vM_offAll : Int32) (cM_d : Nat → Int32) (cM_found : Nat → Int32) (cM_came : Nat → Int32) (cM_got : Nat → Int32) (cM_held : Nat → Int32) (cM_off : Nat → Int32) (H : Heap) (locs : List Loc) (ls : Array Slot), va_P D vwCl (w_X8_truly cyI cyJ cyZ cyB cyO aM aM_d aM_found aM_came aM_got aM_held aM_off aM_e aM_f aM_kept aM_tape aM_comesUp aM_comesDown aM_path aM_gets aM_gotNow aM_bitsOf aM_sizeOf aM_number aM_passing vM_isKept vM_taped vM_leaked vM_keptAll vM_offAll vM_up vM_down vM_sharesUp vM_sharesDown vM_onUp vM_onDown vM_great vM_triedOff vM_triedLeaked vM_triedKept vM_fitting vM_firstSet vM_inAll vM_inAny vM_at vM_sort vM_from vM_value vM_fault cM_d cM_found cM_came cM_got cM_held cM_off) H → va_D A (w_X8_truly cyI cyJ cyZ cyB cyO aM aM_d aM_found aM_came aM_got aM_held aM_off aM_e aM_f aM_kept aM_tape aM_comesUp aM_comesDown aM_path aM_gets aM_gotNow aM_bitsOf aM_sizeOf aM_number aM_passing vM_isKept vM_taped vM_leaked vM_keptAll vM_offAll vM_up vM_down vM_sharesUp vM_sharesDown vM_onUp vM_onDown vM_great vM_triedOff vM_triedLeaked vM_triedKept vM_fitting vM_firstSet vM_inAll vM_inAny vM_at vM_sort vM_from vM_value vM_fault cM_d cM_found cM_came cM_got cM_held cM_off) → va_S A s.heap H locs → lv_has ls 7 [(4, .int y4), (5, .int y5), (0, .ref aM)] → f_X8_truly_J105 x1 x2 x3 y4 y5 vM_leaked vM_keptAll vM_offAll cM_d cM_found cM_came cM_got cM_held cM_off = some out → W p l e ({ frames := 3, cells := 0, slots := 0, locals := 74 } : Room) s m args below meth c H locs 0 0 Q (F0 m 105 ls []) := by
              intro y4 y5 vM_leaked vM_keptAll vM_offAll cM_d cM_found cM_came cM_got cM_held cM_off H locs ls hP hD hS hl h
              unfold f_X8_truly_J105 at h
              refine lv_aload_n hx hb dX8_truly_105 rfl (lv_at hl 2 rfl) ?_
              refine va_get (D := D) (ci := 7) (v := .ref aM_d) (C := RX8) (T := TX8) (N := 43) hx hb hts in_X8 hown hK hP 0 rfl rfl 0 (by decide) q2 (fun _ h9 => h9) rfl dX8_truly_106 ?_
              refine lv_iconst (v := 3) hx hb dX8_truly_109 (by decide) ?_
              refine lv_iload hx hb dX8_truly_110 (lv_at hl 0 rfl) ?_
              refine va_iast hx hb hK hP hD hS 1 0 rfl rfl (by unfold vp_in; decide) dX8_truly_112 (fun H locs hP hD hS => ?_)
              have hP : va_P D vwCl (w_X8_truly cyI cyJ cyZ cyB cyO aM aM_d aM_found aM_came aM_got aM_held aM_off aM_e aM_f aM_kept aM_tape aM_comesUp aM_comesDown aM_path aM_gets aM_gotNow aM_bitsOf aM_sizeOf aM_number aM_passing vM_isKept vM_taped vM_leaked vM_keptAll vM_offAll vM_up vM_down vM_sharesUp vM_sharesDown vM_onUp vM_onDown vM_great vM_triedOff vM_triedLeaked vM_triedKept vM_fitting vM_firstSet vM_inAll vM_inAny vM_at vM_sort vM_from vM_value vM_fault (upd cM_d (3 : Int32).toNatClampNeg y4) cM_found cM_came cM_got cM_held cM_off) H := hP
              have hD : va_D A (w_X8_truly cyI cyJ cyZ cyB cyO aM aM_d aM_found aM_came aM_got aM_held aM_off aM_e aM_f aM_kept aM_tape aM_comesUp aM_comesDown aM_path aM_gets aM_gotNow aM_bitsOf aM_sizeOf aM_number aM_passing vM_isKept vM_taped vM_leaked vM_keptAll vM_offAll vM_up vM_down vM_sharesUp vM_sharesDown vM_onUp vM_onDown vM_great vM_triedOff vM_triedLeaked vM_triedKept vM_fitting vM_firstSet vM_inAll vM_inAny vM_at vM_sort vM_from vM_value vM_fault (upd cM_d (3 : Int32).toNatClampNeg y4) cM_found cM_came cM_got cM_held cM_off) := hD
              refine lv_iload hx hb dX8_truly_113 (lv_at hl 1 rfl) ?_
              refine lv_if_ge (tgt := 126) hx hb dX8_truly_115 (by decide) (fun c10 => ?_) (fun c10 => ?_)
              · have h := br_pos c10 h
                refine lv_iload hx hb dX8_truly_126 (lv_at hl 1 rfl) ?_
                obtain rfl := Option.some.inj h
                exact hret _ _ _ _ _ hP hD hS dX8_truly_128 rfl rfl
              · have h := br_neg c10 h
                refine lv_aload_n hx hb dX8_truly_118 rfl (lv_at hl 2 rfl) ?_
                refine lv_iconst (v := 3) hx hb dX8_truly_119 (by decide) ?_
                obtain ⟨u11, hu11, h⟩ := bd_some h
                refine cl_Vi (rest := []) F hK hP hD hS hA hl (t_X8_finds l D cyI cyJ cyZ cyB cyO aM aM_found aM_d aM_e aM_f aM_kept aM_tape aM_came aM_got aM_held aM_off aM_comesUp aM_comesDown aM_path aM_gets aM_gotNow aM_bitsOf aM_sizeOf aM_number aM_passing vM_isKept vM_taped vM_leaked vM_keptAll vM_offAll vM_up vM_down vM_sharesUp vM_sharesDown vM_onUp vM_onDown vM_great vM_triedOff vM_triedLeaked vM_triedKept vM_fitting vM_firstSet vM_inAll vM_inAny vM_at vM_sort vM_from vM_value vM_fault cM_found (3 : Int32) u11 hu11) (cwV 1 hts gX8_truly_X8_finds rfl rfl rfl (by decide +kernel) ⟨Nat.le_of_ble_eq_true rfl, Nat.le_of_ble_eq_true rfl⟩) 0 [0, 2] [1, 0, 2, 0, 0, 0, 0] [] (w_X8_truly cyI cyJ cyZ cyB cyO aM aM_d aM_found aM_came aM_got aM_held aM_off aM_e aM_f aM_kept aM_tape aM_comesUp aM_comesDown aM_path aM_gets aM_gotNow aM_bitsOf aM_sizeOf aM_number aM_passing vM_isKept vM_taped vM_leaked vM_keptAll vM_offAll vM_up vM_down vM_sharesUp vM_sharesDown vM_onUp vM_onDown vM_great vM_triedOff vM_triedLeaked vM_triedKept vM_fitting vM_firstSet vM_inAll vM_inAny vM_at vM_sort vM_from vM_value vM_fault (upd cM_d (3 : Int32).toNatClampNeg y4) u11.2 cM_came cM_got cM_held cM_off) rfl rfl rfl rfl rfl (by decide +kernel) rfl rfl (Nat.le_of_ble_eq_true rfl) ⟨Nat.zero_le _, Nat.zero_le _⟩ dX8_truly_120 (fun H locs hP hD hS => ?_)
                refine lv_goto (tgt := 128) hx hb dX8_truly_123 (by decide) ?_
                obtain rfl := Option.some.inj h
                exact hret _ _ _ _ _ hP hD hS dX8_truly_128 rfl rfl
            refine lv_icmp_gt (tgt := 105) hx hb dX8_truly_55 (by decide) (fun c12 => ?_) (fun c12 => ?_)
            · have h := br_pos c12 h
              exact j105 y4 y5 vM_leaked vM_keptAll vM_offAll cM_d cM_found cM_came cM_got cM_held cM_off _ _ _ hP hD hS (lv_sub hl [0, 1, 3] rfl) h
            · have h := br_neg c12 h
              refine lv_aload_n hx hb dX8_truly_58 rfl (lv_at hl 3 rfl) ?_
              refine va_get (D := D) (ci := 7) (v := .ref aM_d) (C := RX8) (T := TX8) (N := 43) hx hb hts in_X8 hown hK hP 0 rfl rfl 0 (by decide) q2 (fun _ h9 => h9) rfl dX8_truly_59 ?_
              refine lv_iconst (v := 3) hx hb dX8_truly_62 (by decide) ?_
              refine lv_iload hx hb dX8_truly_63 (lv_at hl 2 rfl) ?_
              refine va_iast hx hb hK hP hD hS 1 0 rfl rfl (by unfold vp_in; decide) dX8_truly_65 (fun H locs hP hD hS => ?_)
              have hP : va_P D vwCl (w_X8_truly cyI cyJ cyZ cyB cyO aM aM_d aM_found aM_came aM_got aM_held aM_off aM_e aM_f aM_kept aM_tape aM_comesUp aM_comesDown aM_path aM_gets aM_gotNow aM_bitsOf aM_sizeOf aM_number aM_passing vM_isKept vM_taped vM_leaked vM_keptAll vM_offAll vM_up vM_down vM_sharesUp vM_sharesDown vM_onUp vM_onDown vM_great vM_triedOff vM_triedLeaked vM_triedKept vM_fitting vM_firstSet vM_inAll vM_inAny vM_at vM_sort vM_from vM_value vM_fault (upd cM_d (3 : Int32).toNatClampNeg y6) cM_found cM_came cM_got cM_held cM_off) H := hP
              have hD : va_D A (w_X8_truly cyI cyJ cyZ cyB cyO aM aM_d aM_found aM_came aM_got aM_held aM_off aM_e aM_f aM_kept aM_tape aM_comesUp aM_comesDown aM_path aM_gets aM_gotNow aM_bitsOf aM_sizeOf aM_number aM_passing vM_isKept vM_taped vM_leaked vM_keptAll vM_offAll vM_up vM_down vM_sharesUp vM_sharesDown vM_onUp vM_onDown vM_great vM_triedOff vM_triedLeaked vM_triedKept vM_fitting vM_firstSet vM_inAll vM_inAny vM_at vM_sort vM_from vM_value vM_fault (upd cM_d (3 : Int32).toNatClampNeg y6) cM_found cM_came cM_got cM_held cM_off) := hD
              refine lv_aload_n hx hb dX8_truly_66 rfl (lv_at hl 3 rfl) ?_
              obtain ⟨u13, hu13, h⟩ := bd_some h
              refine cl_Vv (rest := []) F hK hP hD hS hA hl (t_X8_look l D cyI cyJ cyZ cyB cyO aM aM_d aM_came aM_got aM_held aM_off aM_e aM_f aM_kept aM_found aM_tape aM_comesUp aM_comesDown aM_path aM_gets aM_gotNow aM_bitsOf aM_sizeOf aM_number aM_passing vM_isKept vM_taped vM_leaked vM_keptAll vM_offAll vM_up vM_down vM_sharesUp vM_sharesDown vM_onUp vM_onDown vM_great vM_triedOff vM_triedLeaked vM_triedKept vM_fitting vM_firstSet vM_inAll vM_inAny vM_at vM_sort vM_from vM_value vM_fault (upd cM_d (3 : Int32).toNatClampNeg y6) cM_came cM_got cM_held cM_off u13 hu13) (cwV 0 hts gX8_truly_X8_look rfl rfl rfl (by decide +kernel) ⟨Nat.le_of_ble_eq_true rfl, Nat.le_of_ble_eq_true rfl⟩) 0 [0, 1, 3, 4, 5, 6] [1, 2, 0, 3, 4, 5, 6] [] (w_X8_truly cyI cyJ cyZ cyB cyO aM aM_d aM_found aM_came aM_got aM_held aM_off aM_e aM_f aM_kept aM_tape aM_comesUp aM_comesDown aM_path aM_gets aM_gotNow aM_bitsOf aM_sizeOf aM_number aM_passing vM_isKept vM_taped u13.1 u13.2.1 u13.2.2.1 vM_up vM_down vM_sharesUp vM_sharesDown vM_onUp vM_onDown vM_great vM_triedOff vM_triedLeaked vM_triedKept vM_fitting vM_firstSet vM_inAll vM_inAny vM_at vM_sort vM_from vM_value vM_fault (upd cM_d (3 : Int32).toNatClampNeg y6) cM_found u13.2.2.2.1 u13.2.2.2.2.1 u13.2.2.2.2.2.1 u13.2.2.2.2.2.2) rfl rfl rfl rfl rfl (by decide +kernel) rfl rfl (Nat.le_of_ble_eq_true rfl) ⟨Nat.zero_le _, Nat.zero_le _⟩ dX8_truly_67 (fun H locs hP hD hS => ?_)
              refine lv_aload_n hx hb dX8_truly_70 rfl (lv_at hl 3 rfl) ?_
              refine va_get (D := D) (ci := 7) (v := .ref aM_got) (C := RX8) (T := TX8) (N := 43) hx hb hts in_X8 hown hK hP 0 rfl rfl 9 (by decide) q3 (fun _ h9 => h9) rfl dX8_truly_71 ?_
              refine lv_iload_n hx hb dX8_truly_74 rfl (lv_at hl 4 rfl) ?_
              obtain ⟨g14, h⟩ := gd_some h
              refine va_iald hx hb hK hP 4 0 rfl rfl g14 dX8_truly_75 ?_
              refine lv_iload_n hx hb dX8_truly_76 rfl (lv_at hl 5 rfl) ?_
              refine lv_icmp_ne (tgt := 99) hx hb dX8_truly_77 (by decide) (fun c15 => ?_) (fun c15 => ?_)
              · have h := br_neg c15 h
                refine lv_iinc (v := y6 + 1) (lv' := [(6, .int (y6 + 1)), (4, .int y4), (5, .int y5), (0, .ref aM), (1, .int x1), (2, .int x2), (3, .int x3)]) hx hb dX8_truly_99 hl (k := 2) rfl rfl (by decide) rfl (fun ls hl => ?_)
                refine lv_goto (tgt := 50) hx hb dX8_truly_102 (by decide) ?_
                exact ih50 y4 y5 (y6 + 1) u13.1 u13.2.1 u13.2.2.1 (upd cM_d (3 : Int32).toNatClampNeg y6) cM_found u13.2.2.2.1 u13.2.2.2.2.1 u13.2.2.2.2.2.1 u13.2.2.2.2.2.2 _ _ _ hP hD hS (lv_sub hl [1, 2, 0, 3, 4, 5, 6] rfl) h
              · have h := br_pos c15 h
                refine lv_iload_n hx hb dX8_truly_80 rfl (lv_at hl 6 rfl) ?_
                refine lv_iconst (v := 1) hx hb dX8_truly_81 (by decide) ?_
                refine lv_icmp_eq (tgt := 90) hx hb dX8_truly_82 (by decide) (fun c16 => ?_) (fun c16 => ?_)
                · have h := br_pos c16 h
                  refine lv_iload hx hb dX8_truly_90 (lv_at hl 2 rfl) ?_
                  refine lv_goto (tgt := 97) hx hb dX8_truly_92 (by decide) ?_
                  refine lv_istore (lv' := [(5, .int y6), (4, .int y4), (6, .int y6), (0, .ref aM), (1, .int x1), (2, .int x2), (3, .int x3)]) hx hb dX8_truly_97 hl (by decide) rfl (fun ls hl => ?_)
                  refine lv_iinc (v := y6 + 1) (lv' := [(6, .int (y6 + 1)), (5, .int y6), (4, .int y4), (0, .ref aM), (1, .int x1), (2, .int x2), (3, .int x3)]) hx hb dX8_truly_99 hl (k := 2) rfl rfl (by decide) rfl (fun ls hl => ?_)
                  refine lv_goto (tgt := 50) hx hb dX8_truly_102 (by decide) ?_
                  exact ih50 y4 y6 (y6 + 1) u13.1 u13.2.1 u13.2.2.1 (upd cM_d (3 : Int32).toNatClampNeg y6) cM_found u13.2.2.2.1 u13.2.2.2.2.1 u13.2.2.2.2.2.1 u13.2.2.2.2.2.2 _ _ _ hP hD hS (lv_sub hl [2, 1, 0, 3, 4, 5, 6] rfl) h
                · have h := br_neg c16 h
                  refine lv_iload hx hb dX8_truly_85 (lv_at hl 1 rfl) ?_
                  refine lv_if_ge (tgt := 95) hx hb dX8_truly_87 (by decide) (fun c17 => ?_) (fun c17 => ?_)
                  · have h := br_pos c17 h
                    refine lv_iload hx hb dX8_truly_95 (lv_at hl 1 rfl) ?_
                    refine lv_istore (lv' := [(5, .int y5), (4, .int y4), (6, .int y6), (0, .ref aM), (1, .int x1), (2, .int x2), (3, .int x3)]) hx hb dX8_truly_97 hl (by decide) rfl (fun ls hl => ?_)
                    refine lv_iinc (v := y6 + 1) (lv' := [(6, .int (y6 + 1)), (5, .int y5), (4, .int y4), (0, .ref aM), (1, .int x1), (2, .int x2), (3, .int x3)]) hx hb dX8_truly_99 hl (k := 2) rfl rfl (by decide) rfl (fun ls hl => ?_)
                    refine lv_goto (tgt := 50) hx hb dX8_truly_102 (by decide) ?_
                    exact ih50 y4 y5 (y6 + 1) u13.1 u13.2.1 u13.2.2.1 (upd cM_d (3 : Int32).toNatClampNeg y6) cM_found u13.2.2.2.1 u13.2.2.2.2.1 u13.2.2.2.2.2.1 u13.2.2.2.2.2.2 _ _ _ hP hD hS (lv_sub hl [2, 1, 0, 3, 4, 5, 6] rfl) h
                  · have h := br_neg c17 h
                    refine lv_iload hx hb dX8_truly_90 (lv_at hl 2 rfl) ?_
                    refine lv_goto (tgt := 97) hx hb dX8_truly_92 (by decide) ?_
                    refine lv_istore (lv' := [(5, .int y6), (4, .int y4), (6, .int y6), (0, .ref aM), (1, .int x1), (2, .int x2), (3, .int x3)]) hx hb dX8_truly_97 hl (by decide) rfl (fun ls hl => ?_)
                    refine lv_iinc (v := y6 + 1) (lv' := [(6, .int (y6 + 1)), (5, .int y6), (4, .int y4), (0, .ref aM), (1, .int x1), (2, .int x2), (3, .int x3)]) hx hb dX8_truly_99 hl (k := 2) rfl rfl (by decide) rfl (fun ls hl => ?_)
                    refine lv_goto (tgt := 50) hx hb dX8_truly_102 (by decide) ?_
                    exact ih50 y4 y6 (y6 + 1) u13.1 u13.2.1 u13.2.2.1 (upd cM_d (3 : Int32).toNatClampNeg y6) cM_found u13.2.2.2.1 u13.2.2.2.2.1 u13.2.2.2.2.2.1 u13.2.2.2.2.2.2 _ _ _ hP hD hS (lv_sub hl [2, 1, 0, 3, 4, 5, 6] rfl) h
        exact lp50 FU z9 (-1 : Int32) (0 : Int32) vM_leaked vM_keptAll vM_offAll cM_d cM_found cM_came cM_got cM_held cM_off _ _ _ hP hD hS (lv_sub hl [2, 1, 0, 3, 4, 5, 6] rfl) h
      · have h := br_pos c8 h
        refine lv_aload_n hx hb dX8_truly_30 rfl (lv_at hl 0 rfl) ?_
        refine lv_iconst (v := 0) hx hb dX8_truly_31 (by decide) ?_
        obtain ⟨u18, hu18, h⟩ := bd_some h
        refine cl_Vi (rest := []) F hK hP hD hS hA hl (t_X8_finds l D cyI cyJ cyZ cyB cyO aM aM_found aM_d aM_e aM_f aM_kept aM_tape aM_came aM_got aM_held aM_off aM_comesUp aM_comesDown aM_path aM_gets aM_gotNow aM_bitsOf aM_sizeOf aM_number aM_passing vM_isKept vM_taped vM_leaked vM_keptAll vM_offAll vM_up vM_down vM_sharesUp vM_sharesDown vM_onUp vM_onDown vM_great vM_triedOff vM_triedLeaked vM_triedKept vM_fitting vM_firstSet vM_inAll vM_inAny vM_at vM_sort vM_from vM_value vM_fault cM_found (0 : Int32) u18 hu18) (cwV 1 hts gX8_truly_X8_finds rfl rfl rfl (by decide +kernel) ⟨Nat.le_of_ble_eq_true rfl, Nat.le_of_ble_eq_true rfl⟩) 0 [0, 2] [1, 0, 2, 0, 0, 0, 0] [] (w_X8_truly cyI cyJ cyZ cyB cyO aM aM_d aM_found aM_came aM_got aM_held aM_off aM_e aM_f aM_kept aM_tape aM_comesUp aM_comesDown aM_path aM_gets aM_gotNow aM_bitsOf aM_sizeOf aM_number aM_passing vM_isKept vM_taped vM_leaked vM_keptAll vM_offAll vM_up vM_down vM_sharesUp vM_sharesDown vM_onUp vM_onDown vM_great vM_triedOff vM_triedLeaked vM_triedKept vM_fitting vM_firstSet vM_inAll vM_inAny vM_at vM_sort vM_from vM_value vM_fault cM_d u18.2 cM_came cM_got cM_held cM_off) rfl rfl rfl rfl rfl (by decide +kernel) rfl rfl (Nat.le_of_ble_eq_true rfl) ⟨Nat.zero_le _, Nat.zero_le _⟩ dX8_truly_32 (fun H locs hP hD hS => ?_)
        obtain rfl := Option.some.inj h
        exact hret _ _ _ _ _ hP hD hS dX8_truly_35 rfl rfl
/-! ===== X8_drawn ===== -/
def w_X8_drawn (cyI cyJ cyZ cyB cyO : ClassId) (aM aM_d aM_e aM_f aM_kept aM_found aM_tape aM_came aM_got aM_held aM_off aM_comesUp aM_comesDown aM_path aM_gets aM_gotNow aM_bitsOf aM_sizeOf aM_number aM_passing : Nat) (vM_isKept : Int32) (vM_taped : Int32) (vM_leaked : Int32) (vM_keptAll : Int32) (vM_offAll : Int32) (vM_up : Int64) (vM_down : Int64) (vM_sharesUp : Int64) (vM_sharesDown : Int64) (vM_onUp : Int64) (vM_onDown : Int64) (vM_great : Int32) (vM_triedOff : Int32) (vM_triedLeaked : Int32) (vM_triedKept : Int32) (vM_fitting : Int32) (vM_firstSet : Int32) (vM_inAll : Int32) (vM_inAny : Int32) (vM_at : Int32) (vM_sort : Int32) (vM_from : Int32) (vM_value : Int64) (vM_fault : Int32) (cM_d : Nat → Int32) : va_W := [(aM, .inr (7, [.ref aM_d, .ref aM_e, .ref aM_f, .ref aM_kept, .int vM_isKept, .ref aM_found, .ref aM_tape, .int vM_taped, .ref aM_came, .ref aM_got, .ref aM_held, .ref aM_off, .int vM_leaked, .int vM_keptAll, .int vM_offAll, .ref aM_comesUp, .ref aM_comesDown, .long vM_up, .long vM_down, .long vM_sharesUp, .long vM_sharesDown, .long vM_onUp, .long vM_onDown, .int vM_great, .ref aM_path, .ref aM_gets, .int vM_triedOff, .int vM_triedLeaked, .int vM_triedKept, .ref aM_gotNow, .int vM_fitting, .int vM_firstSet, .int vM_inAll, .int vM_inAny, .int vM_at, .int vM_sort, .int vM_from, .long vM_value, .int vM_fault, .ref aM_bitsOf, .ref aM_sizeOf, .ref aM_number, .ref aM_passing])), (aM_d, .inl (cyI, 64, .inl cM_d))]
set_option maxHeartbeats 4000000 in
set_option maxRecDepth 100000 in
theorem t_X8_drawn (l : Launch) (D : va_G) (cyI cyJ cyZ cyB cyO : ClassId) (aM aM_d aM_e aM_f aM_kept aM_found aM_tape aM_came aM_got aM_held aM_off aM_comesUp aM_comesDown aM_path aM_gets aM_gotNow aM_bitsOf aM_sizeOf aM_number aM_passing : Nat) (vM_isKept : Int32) (vM_taped : Int32) (vM_leaked : Int32) (vM_keptAll : Int32) (vM_offAll : Int32) (vM_up : Int64) (vM_down : Int64) (vM_sharesUp : Int64) (vM_sharesDown : Int64) (vM_onUp : Int64) (vM_onDown : Int64) (vM_great : Int32) (vM_triedOff : Int32) (vM_triedLeaked : Int32) (vM_triedKept : Int32) (vM_fitting : Int32) (vM_firstSet : Int32) (vM_inAll : Int32) (vM_inAny : Int32) (vM_at : Int32) (vM_sort : Int32) (vM_from : Int32) (vM_value : Int64) (vM_fault : Int32) (cM_d : Nat → Int32) (out : Int32 × (Nat → Int32)) (h : f_X8_drawn cM_d = some out) : Mi l yX8_drawn wsX8_drawn ({ frames := 0, cells := 0, slots := 0, locals := 0 } : Room) D (tyA cyI cyJ cyZ cyB cyO) [.ref aM] (w_X8_drawn cyI cyJ cyZ cyB cyO aM aM_d aM_e aM_f aM_kept aM_found aM_tape aM_came aM_got aM_held aM_off aM_comesUp aM_comesDown aM_path aM_gets aM_gotNow aM_bitsOf aM_sizeOf aM_number aM_passing vM_isKept vM_taped vM_leaked vM_keptAll vM_offAll vM_up vM_down vM_sharesUp vM_sharesDown vM_onUp vM_onDown vM_great vM_triedOff vM_triedLeaked vM_triedKept vM_fitting vM_firstSet vM_inAll vM_inAny vM_at vM_sort vM_from vM_value vM_fault cM_d) (w_X8_drawn cyI cyJ cyZ cyB cyO aM aM_d aM_e aM_f aM_kept aM_found aM_tape aM_came aM_got aM_held aM_off aM_comesUp aM_comesDown aM_path aM_gets aM_gotNow aM_bitsOf aM_sizeOf aM_number aM_passing vM_isKept vM_taped vM_leaked vM_keptAll vM_offAll vM_up vM_down vM_sharesUp vM_sharesDown vM_onUp vM_onDown vM_great vM_triedOff vM_triedLeaked vM_triedKept vM_fitting vM_firstSet vM_inAll vM_inAny vM_at vM_sort vM_from vM_value vM_fault out.2) out.1 := by
  refine Mi.mk (cc := cX8_drawn) (maxL := 1) (rt := .int) (own := RX8) (by decide) rfl rfl (Nat.le_of_ble_eq_true rfl) ?_
  intro p e s m args below meth c A Q F hK hP hD hA hret ls hl
  obtain ⟨hx, hb, hml, hown, hts⟩ := id F
  have hS : va_S A s.heap s.heap [] := va_S.rf
  have hl : lv_has ls 1 [(0, .ref aM)] := hl
  have in_X8 : ∀ w ∈ wsX80, w ∈ wsX8_drawn := by decide +kernel
  have q1 := hts (Cond.fieldLink RX8 7 "ThirdFountainModel" "d" "[I") (List.mem_of_getElem? (i := 1) rfl)
  have q2 := hts (Cond.constant RX8 269 (1103515245)) (List.mem_of_getElem? (i := 2) rfl)
  unfold f_X8_drawn at h
  refine lv_aload_n hx hb dX8_drawn_0 rfl (lv_at hl 0 rfl) ?_
  refine va_get (D := D) (ci := 7) (v := .ref aM_d) (C := RX8) (T := TX8) (N := 43) hx hb hts in_X8 hown hK hP 0 rfl rfl 0 (by decide) q1 (fun _ h9 => h9) rfl dX8_drawn_1 ?_
  refine lv_iconst (v := 2) hx hb dX8_drawn_4 (by decide) ?_
  refine lv_aload_n hx hb dX8_drawn_5 rfl (lv_at hl 0 rfl) ?_
  refine va_get (D := D) (ci := 7) (v := .ref aM_d) (C := RX8) (T := TX8) (N := 43) hx hb hts in_X8 hown hK hP 0 rfl rfl 0 (by decide) q1 (fun _ h9 => h9) rfl dX8_drawn_6 ?_
  refine lv_iconst (v := 2) hx hb dX8_drawn_9 (by decide) ?_
  refine va_iald hx hb hK hP 1 0 rfl rfl (by unfold vp_in; decide) dX8_drawn_10 ?_
  refine lv_ldcw (v := 1103515245) hx hb hown q2 dX8_drawn_11 ?_
  refine lv_imul hx hb dX8_drawn_14 ?_
  refine lv_sipush (v := 12345) hx hb dX8_drawn_15 (by decide) ?_
  refine lv_iadd hx hb dX8_drawn_18 ?_
  refine va_iast hx hb hK hP hD hS 1 0 rfl rfl (by unfold vp_in; decide) dX8_drawn_19 (fun H locs hP hD hS => ?_)
  have hP : va_P D vwCl (w_X8_drawn cyI cyJ cyZ cyB cyO aM aM_d aM_e aM_f aM_kept aM_found aM_tape aM_came aM_got aM_held aM_off aM_comesUp aM_comesDown aM_path aM_gets aM_gotNow aM_bitsOf aM_sizeOf aM_number aM_passing vM_isKept vM_taped vM_leaked vM_keptAll vM_offAll vM_up vM_down vM_sharesUp vM_sharesDown vM_onUp vM_onDown vM_great vM_triedOff vM_triedLeaked vM_triedKept vM_fitting vM_firstSet vM_inAll vM_inAny vM_at vM_sort vM_from vM_value vM_fault (upd cM_d (2 : Int32).toNatClampNeg (((cM_d (2 : Int32).toNatClampNeg) * (1103515245 : Int32)) + (12345 : Int32)))) H := hP
  have hD : va_D A (w_X8_drawn cyI cyJ cyZ cyB cyO aM aM_d aM_e aM_f aM_kept aM_found aM_tape aM_came aM_got aM_held aM_off aM_comesUp aM_comesDown aM_path aM_gets aM_gotNow aM_bitsOf aM_sizeOf aM_number aM_passing vM_isKept vM_taped vM_leaked vM_keptAll vM_offAll vM_up vM_down vM_sharesUp vM_sharesDown vM_onUp vM_onDown vM_great vM_triedOff vM_triedLeaked vM_triedKept vM_fitting vM_firstSet vM_inAll vM_inAny vM_at vM_sort vM_from vM_value vM_fault (upd cM_d (2 : Int32).toNatClampNeg (((cM_d (2 : Int32).toNatClampNeg) * (1103515245 : Int32)) + (12345 : Int32)))) := hD
  refine lv_aload_n hx hb dX8_drawn_20 rfl (lv_at hl 0 rfl) ?_
  refine va_get (D := D) (ci := 7) (v := .ref aM_d) (C := RX8) (T := TX8) (N := 43) hx hb hts in_X8 hown hK hP 0 rfl rfl 0 (by decide) q1 (fun _ h9 => h9) rfl dX8_drawn_21 ?_
  refine lv_iconst (v := 2) hx hb dX8_drawn_24 (by decide) ?_
  refine va_iald hx hb hK hP 1 0 rfl rfl (by unfold vp_in; decide) dX8_drawn_25 ?_
  refine lv_bipush (v := 8) hx hb dX8_drawn_26 (by decide) ?_
  refine lv_iushr hx hb dX8_drawn_28 rfl ?_
  obtain rfl := Option.some.inj h
  exact hret _ _ _ _ _ hP hD hS dX8_drawn_29 rfl rfl
/-! ===== X8_weather ===== -/
def w_X8_weather (cyI cyJ cyZ cyB cyO : ClassId) (aM aM_d aM_came aM_got aM_held aM_off aM_found aM_e aM_f aM_kept aM_tape aM_comesUp aM_comesDown aM_path aM_gets aM_gotNow aM_bitsOf aM_sizeOf aM_number aM_passing : Nat) (vM_isKept : Int32) (vM_taped : Int32) (vM_leaked : Int32) (vM_keptAll : Int32) (vM_offAll : Int32) (vM_up : Int64) (vM_down : Int64) (vM_sharesUp : Int64) (vM_sharesDown : Int64) (vM_onUp : Int64) (vM_onDown : Int64) (vM_great : Int32) (vM_triedOff : Int32) (vM_triedLeaked : Int32) (vM_triedKept : Int32) (vM_fitting : Int32) (vM_firstSet : Int32) (vM_inAll : Int32) (vM_inAny : Int32) (vM_at : Int32) (vM_sort : Int32) (vM_from : Int32) (vM_value : Int64) (vM_fault : Int32) (cM_d : Nat → Int32) (cM_came : Nat → Int32) (cM_got : Nat → Int32) (cM_held : Nat → Int32) (cM_off : Nat → Int32) (cM_found : Nat → Int32) : va_W := [(aM, .inr (7, [.ref aM_d, .ref aM_e, .ref aM_f, .ref aM_kept, .int vM_isKept, .ref aM_found, .ref aM_tape, .int vM_taped, .ref aM_came, .ref aM_got, .ref aM_held, .ref aM_off, .int vM_leaked, .int vM_keptAll, .int vM_offAll, .ref aM_comesUp, .ref aM_comesDown, .long vM_up, .long vM_down, .long vM_sharesUp, .long vM_sharesDown, .long vM_onUp, .long vM_onDown, .int vM_great, .ref aM_path, .ref aM_gets, .int vM_triedOff, .int vM_triedLeaked, .int vM_triedKept, .ref aM_gotNow, .int vM_fitting, .int vM_firstSet, .int vM_inAll, .int vM_inAny, .int vM_at, .int vM_sort, .int vM_from, .long vM_value, .int vM_fault, .ref aM_bitsOf, .ref aM_sizeOf, .ref aM_number, .ref aM_passing])), (aM_d, .inl (cyI, 64, .inl cM_d)), (aM_came, .inl (cyI, 10, .inl cM_came)), (aM_got, .inl (cyI, 10, .inl cM_got)), (aM_held, .inl (cyI, 10, .inl cM_held)), (aM_off, .inl (cyI, 10, .inl cM_off)), (aM_found, .inl (cyI, 7, .inl cM_found))]
set_option maxHeartbeats 4000000 in
set_option maxRecDepth 100000 in
theorem t_X8_weather (l : Launch) (D : va_G) (cyI cyJ cyZ cyB cyO : ClassId) (aM aM_d aM_came aM_got aM_held aM_off aM_found aM_e aM_f aM_kept aM_tape aM_comesUp aM_comesDown aM_path aM_gets aM_gotNow aM_bitsOf aM_sizeOf aM_number aM_passing : Nat) (vM_isKept : Int32) (vM_taped : Int32) (vM_leaked : Int32) (vM_keptAll : Int32) (vM_offAll : Int32) (vM_up : Int64) (vM_down : Int64) (vM_sharesUp : Int64) (vM_sharesDown : Int64) (vM_onUp : Int64) (vM_onDown : Int64) (vM_great : Int32) (vM_triedOff : Int32) (vM_triedLeaked : Int32) (vM_triedKept : Int32) (vM_fitting : Int32) (vM_firstSet : Int32) (vM_inAll : Int32) (vM_inAny : Int32) (vM_at : Int32) (vM_sort : Int32) (vM_from : Int32) (vM_value : Int64) (vM_fault : Int32) (cM_d : Nat → Int32) (cM_came : Nat → Int32) (cM_got : Nat → Int32) (cM_held : Nat → Int32) (cM_off : Nat → Int32) (cM_found : Nat → Int32) (x1 : Int32) (out : Int32 × Int32 × Int32 × Int32 × (Nat → Int32) × (Nat → Int32) × (Nat → Int32) × (Nat → Int32) × (Nat → Int32) × (Nat → Int32)) (h : f_X8_weather x1 vM_leaked vM_keptAll vM_offAll cM_d cM_came cM_got cM_held cM_off cM_found = some out) : Mi l yX8_weather wsX8_weather ({ frames := 5, cells := 0, slots := 0, locals := 118 } : Room) D (tyA cyI cyJ cyZ cyB cyO) [.ref aM, .int x1] (w_X8_weather cyI cyJ cyZ cyB cyO aM aM_d aM_came aM_got aM_held aM_off aM_found aM_e aM_f aM_kept aM_tape aM_comesUp aM_comesDown aM_path aM_gets aM_gotNow aM_bitsOf aM_sizeOf aM_number aM_passing vM_isKept vM_taped vM_leaked vM_keptAll vM_offAll vM_up vM_down vM_sharesUp vM_sharesDown vM_onUp vM_onDown vM_great vM_triedOff vM_triedLeaked vM_triedKept vM_fitting vM_firstSet vM_inAll vM_inAny vM_at vM_sort vM_from vM_value vM_fault cM_d cM_came cM_got cM_held cM_off cM_found) (w_X8_weather cyI cyJ cyZ cyB cyO aM aM_d aM_came aM_got aM_held aM_off aM_found aM_e aM_f aM_kept aM_tape aM_comesUp aM_comesDown aM_path aM_gets aM_gotNow aM_bitsOf aM_sizeOf aM_number aM_passing vM_isKept vM_taped out.2.1 out.2.2.1 out.2.2.2.1 vM_up vM_down vM_sharesUp vM_sharesDown vM_onUp vM_onDown vM_great vM_triedOff vM_triedLeaked vM_triedKept vM_fitting vM_firstSet vM_inAll vM_inAny vM_at vM_sort vM_from vM_value vM_fault out.2.2.2.2.1 out.2.2.2.2.2.1 out.2.2.2.2.2.2.1 out.2.2.2.2.2.2.2.1 out.2.2.2.2.2.2.2.2.1 out.2.2.2.2.2.2.2.2.2) out.1 := by
  refine Mi.mk (cc := cX8_weather) (maxL := 4) (rt := .int) (own := RX8) (by decide) rfl rfl (Nat.le_of_ble_eq_true rfl) ?_
  intro p e s m args below meth c A Q F hK hP hD hA hret ls hl
  obtain ⟨hx, hb, hml, hown, hts⟩ := id F
  have hS : va_S A s.heap s.heap [] := va_S.rf
  have hl : lv_has ls 4 [(0, .ref aM), (1, .int x1)] := hl
  have in_X8 : ∀ w ∈ wsX80, w ∈ wsX8_weather := by decide +kernel
  have q1 := hts (Cond.constantLong RX8 270 (12)) (List.mem_of_getElem? (i := 1) rfl)
  have q3 := hts (Cond.methodLink RX8 70 yX8_in) (List.mem_of_getElem? (i := 3) rfl)
  have q13 := hts (Cond.methodLink RX8 206 yX8_isLate) (List.mem_of_getElem? (i := 13) rfl)
  have q2 := hts (Cond.fieldLink RX8 7 "ThirdFountainModel" "d" "[I") (List.mem_of_getElem? (i := 2) rfl)
  have q17 := hts (Cond.methodLink RX8 272 yX8_drawn) (List.mem_of_getElem? (i := 17) rfl)
  have q22 := hts (Cond.methodLink RX8 209 yX8_goOn) (List.mem_of_getElem? (i := 22) rfl)
  have q7 := hts (Cond.methodLink RX8 115 yX8_finds) (List.mem_of_getElem? (i := 7) rfl)
  unfold f_X8_weather at h
  refine lv_iload_n hx hb dX8_weather_0 rfl (lv_at hl 1 rfl) ?_
  refine lv_i2l hx hb dX8_weather_1 rfl ?_
  refine lv_lconst (v := 1) hx hb dX8_weather_2 (by decide) ?_
  refine lv_ldc2 (v := 12) hx hb hown q1 dX8_weather_3 ?_
  obtain ⟨u1, hu1, h⟩ := bd_some h
  refine cl_Si (rest := []) F hK hP hD hS hA hl (t_X8_in l D cyI cyJ cyZ cyB cyO x1.toInt64 (1 : Int64) (12 : Int64) u1 hu1) (va_cwS 3 hts gX8_weather_X8_in rfl rfl rfl (by decide +kernel) ⟨Nat.le_of_ble_eq_true rfl, Nat.le_of_ble_eq_true rfl⟩) [] [0, 0, 0, 0, 0, 0, 0] [] (w_X8_weather cyI cyJ cyZ cyB cyO aM aM_d aM_came aM_got aM_held aM_off aM_found aM_e aM_f aM_kept aM_tape aM_comesUp aM_comesDown aM_path aM_gets aM_gotNow aM_bitsOf aM_sizeOf aM_number aM_passing vM_isKept vM_taped vM_leaked vM_keptAll vM_offAll vM_up vM_down vM_sharesUp vM_sharesDown vM_onUp vM_onDown vM_great vM_triedOff vM_triedLeaked vM_triedKept vM_fitting vM_firstSet vM_inAll vM_inAny vM_at vM_sort vM_from vM_value vM_fault cM_d cM_came cM_got cM_held cM_off cM_found) rfl rfl rfl (by decide +kernel) rfl rfl (Nat.le_of_ble_eq_true rfl) ⟨Nat.zero_le _, Nat.zero_le _⟩ dX8_weather_6 (fun H locs hP hD hS => ?_)
  refine lv_if_ne (tgt := 18) hx hb dX8_weather_9 (by decide) (fun c2 => ?_) (fun c2 => ?_)
  · have h := br_neg c2 h
    refine lv_aload_n hx hb dX8_weather_18 rfl (lv_at hl 0 rfl) ?_
    refine lv_iload_n hx hb dX8_weather_19 rfl (lv_at hl 1 rfl) ?_
    obtain ⟨u3, hu3, h⟩ := bd_some h
    refine cl_Vi (rest := []) F hK hP hD hS hA hl (t_X8_isLate l D cyI cyJ cyZ cyB cyO aM aM_d aM_e aM_f aM_kept aM_found aM_tape aM_came aM_got aM_held aM_off aM_comesUp aM_comesDown aM_path aM_gets aM_gotNow aM_bitsOf aM_sizeOf aM_number aM_passing vM_isKept vM_taped vM_leaked vM_keptAll vM_offAll vM_up vM_down vM_sharesUp vM_sharesDown vM_onUp vM_onDown vM_great vM_triedOff vM_triedLeaked vM_triedKept vM_fitting vM_firstSet vM_inAll vM_inAny vM_at vM_sort vM_from vM_value vM_fault cM_d x1 u3 hu3) (cwV 1 hts gX8_weather_X8_isLate rfl rfl rfl (by decide +kernel) ⟨Nat.le_of_ble_eq_true rfl, Nat.le_of_ble_eq_true rfl⟩) 0 [0, 1] [1, 2, 0, 0, 0, 0, 0] [] (w_X8_weather cyI cyJ cyZ cyB cyO aM aM_d aM_came aM_got aM_held aM_off aM_found aM_e aM_f aM_kept aM_tape aM_comesUp aM_comesDown aM_path aM_gets aM_gotNow aM_bitsOf aM_sizeOf aM_number aM_passing vM_isKept vM_taped vM_leaked vM_keptAll vM_offAll vM_up vM_down vM_sharesUp vM_sharesDown vM_onUp vM_onDown vM_great vM_triedOff vM_triedLeaked vM_triedKept vM_fitting vM_firstSet vM_inAll vM_inAny vM_at vM_sort vM_from vM_value vM_fault cM_d cM_came cM_got cM_held cM_off cM_found) rfl rfl rfl rfl rfl (by decide +kernel) rfl rfl (Nat.le_of_ble_eq_true rfl) ⟨Nat.zero_le _, Nat.zero_le _⟩ dX8_weather_20 (fun H locs hP hD hS => ?_)
    refine lv_if_eq (tgt := 32) hx hb dX8_weather_23 (by decide) (fun c4 => ?_) (fun c4 => ?_)
    · have h := br_pos c4 h
      refine lv_iconst (v := 0) hx hb dX8_weather_32 (by decide) ?_
      refine lv_istore_n (lv' := [(2, .int (0 : Int32)), (0, .ref aM), (1, .int x1)]) hx hb dX8_weather_33 rfl hl (by decide) rfl (fun ls hl => ?_)
      refine lv_iconst (v := 0) hx hb dX8_weather_34 (by decide) ?_
      refine lv_istore_n (lv' := [(3, .int (0 : Int32)), (2, .int (0 : Int32)), (0, .ref aM), (1, .int x1)]) hx hb dX8_weather_35 rfl hl (by decide) rfl (fun ls hl => ?_)
      have lp36 : ∀ (k36 : Nat) (y2 : Int32) (y3 : Int32) (vM_leaked : Int32) (vM_keptAll : Int32) (vM_offAll : Int32) (cM_d : Nat → Int32) (cM_came : Nat → Int32) (cM_got : Nat → Int32) (cM_held : Nat → Int32) (cM_off : Nat → Int32) (cM_found : Nat → Int32) (H : Heap) (locs : List Loc) (ls : Array Slot), va_P D vwCl (w_X8_weather cyI cyJ cyZ cyB cyO aM aM_d aM_came aM_got aM_held aM_off aM_found aM_e aM_f aM_kept aM_tape aM_comesUp aM_comesDown aM_path aM_gets aM_gotNow aM_bitsOf aM_sizeOf aM_number aM_passing vM_isKept vM_taped vM_leaked vM_keptAll vM_offAll vM_up vM_down vM_sharesUp vM_sharesDown vM_onUp vM_onDown vM_great vM_triedOff vM_triedLeaked vM_triedKept vM_fitting vM_firstSet vM_inAll vM_inAny vM_at vM_sort vM_from vM_value vM_fault cM_d cM_came cM_got cM_held cM_off cM_found) H → va_D A (w_X8_weather cyI cyJ cyZ cyB cyO aM aM_d aM_came aM_got aM_held aM_off aM_found aM_e aM_f aM_kept aM_tape aM_comesUp aM_comesDown aM_path aM_gets aM_gotNow aM_bitsOf aM_sizeOf aM_number aM_passing vM_isKept vM_taped vM_leaked vM_keptAll vM_offAll vM_up vM_down vM_sharesUp vM_sharesDown vM_onUp vM_onDown vM_great vM_triedOff vM_triedLeaked vM_triedKept vM_fitting vM_firstSet vM_inAll vM_inAny vM_at vM_sort vM_from vM_value vM_fault cM_d cM_came cM_got cM_held cM_off cM_found) → va_S A s.heap H locs → lv_has ls 4 [(2, .int y2), (3, .int y3), (0, .ref aM), (1, .int x1)] → (f_X8_weather_L36 x1 k36) (y2, y3, vM_leaked, vM_keptAll, vM_offAll, cM_d, cM_came, cM_got, cM_held, cM_off, cM_found) = some out → W p l e ({ frames := 5, cells := 0, slots := 0, locals := 118 } : Room) s m args below meth c H locs 0 0 Q (F0 m 36 ls []) := by
        intro k36
        induction k36 with
        | zero => intro y2 y3 vM_leaked vM_keptAll vM_offAll cM_d cM_came cM_got cM_held cM_off cM_found H locs ls hP hD hS hl h; cases h
        | succ k36 ih36 =>
          intro y2 y3 vM_leaked vM_keptAll vM_offAll cM_d cM_came cM_got cM_held cM_off cM_found H locs ls hP hD hS hl h
          have h : f_X8_weather_L36_b x1 (f_X8_weather_L36 x1 k36) y2 y3 vM_leaked vM_keptAll vM_offAll cM_d cM_came cM_got cM_held cM_off cM_found = some out := h
          unfold f_X8_weather_L36_b at h
          refine lv_iload_n hx hb dX8_weather_36 rfl (lv_at hl 1 rfl) ?_
          refine lv_iload_n hx hb dX8_weather_37 rfl (lv_at hl 3 rfl) ?_
          refine lv_icmp_ge (tgt := 69) hx hb dX8_weather_38 (by decide) (fun c5 => ?_) (fun c5 => ?_)
          · have h := br_pos c5 h
            refine lv_iload_n hx hb dX8_weather_69 rfl (lv_at hl 0 rfl) ?_
            obtain rfl := Option.some.inj h
            exact hret _ _ _ _ _ hP hD hS dX8_weather_70 rfl rfl
          · have h := br_neg c5 h
            refine lv_aload_n hx hb dX8_weather_41 rfl (lv_at hl 2 rfl) ?_
            refine va_get (D := D) (ci := 7) (v := .ref aM_d) (C := RX8) (T := TX8) (N := 43) hx hb hts in_X8 hown hK hP 0 rfl rfl 0 (by decide) q2 (fun _ h9 => h9) rfl dX8_weather_42 ?_
            refine lv_iconst (v := 3) hx hb dX8_weather_45 (by decide) ?_
            refine lv_aload_n hx hb dX8_weather_46 rfl (lv_at hl 2 rfl) ?_
            obtain ⟨u6, hu6, h⟩ := bd_some h
            refine cl_Vi (rest := [.int (3 : Int32), .ref aM_d]) F hK hP hD hS hA hl (t_X8_drawn l D cyI cyJ cyZ cyB cyO aM aM_d aM_e aM_f aM_kept aM_found aM_tape aM_came aM_got aM_held aM_off aM_comesUp aM_comesDown aM_path aM_gets aM_gotNow aM_bitsOf aM_sizeOf aM_number aM_passing vM_isKept vM_taped vM_leaked vM_keptAll vM_offAll vM_up vM_down vM_sharesUp vM_sharesDown vM_onUp vM_onDown vM_great vM_triedOff vM_triedLeaked vM_triedKept vM_fitting vM_firstSet vM_inAll vM_inAny vM_at vM_sort vM_from vM_value vM_fault cM_d u6 hu6) (cwV 0 hts gX8_weather_X8_drawn rfl rfl rfl (by decide +kernel) ⟨Nat.le_of_ble_eq_true rfl, Nat.le_of_ble_eq_true rfl⟩) 0 [0, 1] [1, 2, 0, 0, 0, 0, 0] [] (w_X8_weather cyI cyJ cyZ cyB cyO aM aM_d aM_came aM_got aM_held aM_off aM_found aM_e aM_f aM_kept aM_tape aM_comesUp aM_comesDown aM_path aM_gets aM_gotNow aM_bitsOf aM_sizeOf aM_number aM_passing vM_isKept vM_taped vM_leaked vM_keptAll vM_offAll vM_up vM_down vM_sharesUp vM_sharesDown vM_onUp vM_onDown vM_great vM_triedOff vM_triedLeaked vM_triedKept vM_fitting vM_firstSet vM_inAll vM_inAny vM_at vM_sort vM_from vM_value vM_fault u6.2 cM_came cM_got cM_held cM_off cM_found) rfl rfl rfl rfl rfl (by decide +kernel) rfl rfl (Nat.le_of_ble_eq_true rfl) ⟨Nat.zero_le _, Nat.zero_le _⟩ dX8_weather_47 (fun H locs hP hD hS => ?_)
            refine lv_sipush (v := 300) hx hb dX8_weather_50 (by decide) ?_
            refine lv_irem hx hb dX8_weather_53 (by decide) ?_
            refine va_iast hx hb hK hP hD hS 1 0 rfl rfl (by unfold vp_in; decide) dX8_weather_54 (fun H locs hP hD hS => ?_)
            have hP : va_P D vwCl (w_X8_weather cyI cyJ cyZ cyB cyO aM aM_d aM_came aM_got aM_held aM_off aM_found aM_e aM_f aM_kept aM_tape aM_comesUp aM_comesDown aM_path aM_gets aM_gotNow aM_bitsOf aM_sizeOf aM_number aM_passing vM_isKept vM_taped vM_leaked vM_keptAll vM_offAll vM_up vM_down vM_sharesUp vM_sharesDown vM_onUp vM_onDown vM_great vM_triedOff vM_triedLeaked vM_triedKept vM_fitting vM_firstSet vM_inAll vM_inAny vM_at vM_sort vM_from vM_value vM_fault (upd u6.2 (3 : Int32).toNatClampNeg (u6.1 - u6.1 / (300 : Int32) * (300 : Int32))) cM_came cM_got cM_held cM_off cM_found) H := hP
            have hD : va_D A (w_X8_weather cyI cyJ cyZ cyB cyO aM aM_d aM_came aM_got aM_held aM_off aM_found aM_e aM_f aM_kept aM_tape aM_comesUp aM_comesDown aM_path aM_gets aM_gotNow aM_bitsOf aM_sizeOf aM_number aM_passing vM_isKept vM_taped vM_leaked vM_keptAll vM_offAll vM_up vM_down vM_sharesUp vM_sharesDown vM_onUp vM_onDown vM_great vM_triedOff vM_triedLeaked vM_triedKept vM_fitting vM_firstSet vM_inAll vM_inAny vM_at vM_sort vM_from vM_value vM_fault (upd u6.2 (3 : Int32).toNatClampNeg (u6.1 - u6.1 / (300 : Int32) * (300 : Int32))) cM_came cM_got cM_held cM_off cM_found) := hD
            refine lv_iload_n hx hb dX8_weather_55 rfl (lv_at hl 0 rfl) ?_
            refine lv_aload_n hx hb dX8_weather_56 rfl (lv_at hl 2 rfl) ?_
            refine lv_iconst (v := 1) hx hb dX8_weather_57 (by decide) ?_
            obtain ⟨u7, hu7, h⟩ := bd_some h
            refine cl_Vi (rest := [.int y2]) F hK hP hD hS hA hl (t_X8_goOn l D cyI cyJ cyZ cyB cyO aM aM_d aM_came aM_got aM_held aM_off aM_e aM_f aM_kept aM_found aM_tape aM_comesUp aM_comesDown aM_path aM_gets aM_gotNow aM_bitsOf aM_sizeOf aM_number aM_passing vM_isKept vM_taped vM_leaked vM_keptAll vM_offAll vM_up vM_down vM_sharesUp vM_sharesDown vM_onUp vM_onDown vM_great vM_triedOff vM_triedLeaked vM_triedKept vM_fitting vM_firstSet vM_inAll vM_inAny vM_at vM_sort vM_from vM_value vM_fault (upd u6.2 (3 : Int32).toNatClampNeg (u6.1 - u6.1 / (300 : Int32) * (300 : Int32))) cM_came cM_got cM_held cM_off (1 : Int32) u7 hu7) (cwV 1 hts gX8_weather_X8_goOn rfl rfl rfl (by decide +kernel) ⟨Nat.le_of_ble_eq_true rfl, Nat.le_of_ble_eq_true rfl⟩) 0 [0, 1, 2, 3, 4, 5] [1, 2, 3, 4, 5, 6, 0] [] (w_X8_weather cyI cyJ cyZ cyB cyO aM aM_d aM_came aM_got aM_held aM_off aM_found aM_e aM_f aM_kept aM_tape aM_comesUp aM_comesDown aM_path aM_gets aM_gotNow aM_bitsOf aM_sizeOf aM_number aM_passing vM_isKept vM_taped u7.2.1 u7.2.2.1 u7.2.2.2.1 vM_up vM_down vM_sharesUp vM_sharesDown vM_onUp vM_onDown vM_great vM_triedOff vM_triedLeaked vM_triedKept vM_fitting vM_firstSet vM_inAll vM_inAny vM_at vM_sort vM_from vM_value vM_fault u7.2.2.2.2.1 u7.2.2.2.2.2.1 u7.2.2.2.2.2.2.1 u7.2.2.2.2.2.2.2.1 u7.2.2.2.2.2.2.2.2 cM_found) rfl rfl rfl rfl rfl (by decide +kernel) rfl rfl (Nat.le_of_ble_eq_true rfl) ⟨Nat.zero_le _, Nat.zero_le _⟩ dX8_weather_58 (fun H locs hP hD hS => ?_)
            refine lv_iadd hx hb dX8_weather_61 ?_
            refine lv_topi (fun z8 ez8 => ?_)
            have h := nm_at ez8 h
            refine lv_istore_n (lv' := [(2, .int z8), (3, .int y3), (0, .ref aM), (1, .int x1)]) hx hb dX8_weather_62 rfl hl (by decide) rfl (fun ls hl => ?_)
            refine lv_iinc (v := y3 + 1) (lv' := [(3, .int (y3 + 1)), (2, .int z8), (0, .ref aM), (1, .int x1)]) hx hb dX8_weather_63 hl (k := 1) rfl rfl (by decide) rfl (fun ls hl => ?_)
            refine lv_goto (tgt := 36) hx hb dX8_weather_66 (by decide) ?_
            exact ih36 z8 (y3 + 1) u7.2.1 u7.2.2.1 u7.2.2.2.1 u7.2.2.2.2.1 u7.2.2.2.2.2.1 u7.2.2.2.2.2.2.1 u7.2.2.2.2.2.2.2.1 u7.2.2.2.2.2.2.2.2 cM_found _ _ _ hP hD hS (lv_sub hl [1, 0, 2, 3] rfl) h
      exact lp36 FU (0 : Int32) (0 : Int32) vM_leaked vM_keptAll vM_offAll cM_d cM_came cM_got cM_held cM_off cM_found _ _ _ hP hD hS (lv_sub hl [1, 0, 2, 3] rfl) h
    · have h := br_neg c4 h
      refine lv_aload_n hx hb dX8_weather_26 rfl (lv_at hl 0 rfl) ?_
      refine lv_iconst (v := 4) hx hb dX8_weather_27 (by decide) ?_
      obtain ⟨u9, hu9, h⟩ := bd_some h
      refine cl_Vi (rest := []) F hK hP hD hS hA hl (t_X8_finds l D cyI cyJ cyZ cyB cyO aM aM_found aM_d aM_e aM_f aM_kept aM_tape aM_came aM_got aM_held aM_off aM_comesUp aM_comesDown aM_path aM_gets aM_gotNow aM_bitsOf aM_sizeOf aM_number aM_passing vM_isKept vM_taped vM_leaked vM_keptAll vM_offAll vM_up vM_down vM_sharesUp vM_sharesDown vM_onUp vM_onDown vM_great vM_triedOff vM_triedLeaked vM_triedKept vM_fitting vM_firstSet vM_inAll vM_inAny vM_at vM_sort vM_from vM_value vM_fault cM_found (4 : Int32) u9 hu9) (cwV 1 hts gX8_weather_X8_finds rfl rfl rfl (by decide +kernel) ⟨Nat.le_of_ble_eq_true rfl, Nat.le_of_ble_eq_true rfl⟩) 0 [0, 6] [1, 0, 0, 0, 0, 0, 2] [] (w_X8_weather cyI cyJ cyZ cyB cyO aM aM_d aM_came aM_got aM_held aM_off aM_found aM_e aM_f aM_kept aM_tape aM_comesUp aM_comesDown aM_path aM_gets aM_gotNow aM_bitsOf aM_sizeOf aM_number aM_passing vM_isKept vM_taped vM_leaked vM_keptAll vM_offAll vM_up vM_down vM_sharesUp vM_sharesDown vM_onUp vM_onDown vM_great vM_triedOff vM_triedLeaked vM_triedKept vM_fitting vM_firstSet vM_inAll vM_inAny vM_at vM_sort vM_from vM_value vM_fault cM_d cM_came cM_got cM_held cM_off u9.2) rfl rfl rfl rfl rfl (by decide +kernel) rfl rfl (Nat.le_of_ble_eq_true rfl) ⟨Nat.zero_le _, Nat.zero_le _⟩ dX8_weather_28 (fun H locs hP hD hS => ?_)
      obtain rfl := Option.some.inj h
      exact hret _ _ _ _ _ hP hD hS dX8_weather_31 rfl rfl
  · have h := br_pos c2 h
    refine lv_aload_n hx hb dX8_weather_12 rfl (lv_at hl 0 rfl) ?_
    refine lv_iconst (v := 0) hx hb dX8_weather_13 (by decide) ?_
    obtain ⟨u10, hu10, h⟩ := bd_some h
    refine cl_Vi (rest := []) F hK hP hD hS hA hl (t_X8_finds l D cyI cyJ cyZ cyB cyO aM aM_found aM_d aM_e aM_f aM_kept aM_tape aM_came aM_got aM_held aM_off aM_comesUp aM_comesDown aM_path aM_gets aM_gotNow aM_bitsOf aM_sizeOf aM_number aM_passing vM_isKept vM_taped vM_leaked vM_keptAll vM_offAll vM_up vM_down vM_sharesUp vM_sharesDown vM_onUp vM_onDown vM_great vM_triedOff vM_triedLeaked vM_triedKept vM_fitting vM_firstSet vM_inAll vM_inAny vM_at vM_sort vM_from vM_value vM_fault cM_found (0 : Int32) u10 hu10) (cwV 1 hts gX8_weather_X8_finds rfl rfl rfl (by decide +kernel) ⟨Nat.le_of_ble_eq_true rfl, Nat.le_of_ble_eq_true rfl⟩) 0 [0, 6] [1, 0, 0, 0, 0, 0, 2] [] (w_X8_weather cyI cyJ cyZ cyB cyO aM aM_d aM_came aM_got aM_held aM_off aM_found aM_e aM_f aM_kept aM_tape aM_comesUp aM_comesDown aM_path aM_gets aM_gotNow aM_bitsOf aM_sizeOf aM_number aM_passing vM_isKept vM_taped vM_leaked vM_keptAll vM_offAll vM_up vM_down vM_sharesUp vM_sharesDown vM_onUp vM_onDown vM_great vM_triedOff vM_triedLeaked vM_triedKept vM_fitting vM_firstSet vM_inAll vM_inAny vM_at vM_sort vM_from vM_value vM_fault cM_d cM_came cM_got cM_held cM_off u10.2) rfl rfl rfl rfl rfl (by decide +kernel) rfl rfl (Nat.le_of_ble_eq_true rfl) ⟨Nat.zero_le _, Nat.zero_le _⟩ dX8_weather_14 (fun H locs hP hD hS => ?_)
    obtain rfl := Option.some.inj h
    exact hret _ _ _ _ _ hP hD hS dX8_weather_17 rfl rfl
/-! ===== X8_wear ===== -/
def w_X8_wear (cyI cyJ cyZ cyB cyO : ClassId) (aM aM_d aM_came aM_got aM_held aM_off aM_found aM_e aM_f aM_kept aM_tape aM_comesUp aM_comesDown aM_path aM_gets aM_gotNow aM_bitsOf aM_sizeOf aM_number aM_passing : Nat) (vM_isKept : Int32) (vM_taped : Int32) (vM_leaked : Int32) (vM_keptAll : Int32) (vM_offAll : Int32) (vM_up : Int64) (vM_down : Int64) (vM_sharesUp : Int64) (vM_sharesDown : Int64) (vM_onUp : Int64) (vM_onDown : Int64) (vM_great : Int32) (vM_triedOff : Int32) (vM_triedLeaked : Int32) (vM_triedKept : Int32) (vM_fitting : Int32) (vM_firstSet : Int32) (vM_inAll : Int32) (vM_inAny : Int32) (vM_at : Int32) (vM_sort : Int32) (vM_from : Int32) (vM_value : Int64) (vM_fault : Int32) (cM_d : Nat → Int32) (cM_came : Nat → Int32) (cM_got : Nat → Int32) (cM_held : Nat → Int32) (cM_off : Nat → Int32) (cM_found : Nat → Int32) : va_W := [(aM, .inr (7, [.ref aM_d, .ref aM_e, .ref aM_f, .ref aM_kept, .int vM_isKept, .ref aM_found, .ref aM_tape, .int vM_taped, .ref aM_came, .ref aM_got, .ref aM_held, .ref aM_off, .int vM_leaked, .int vM_keptAll, .int vM_offAll, .ref aM_comesUp, .ref aM_comesDown, .long vM_up, .long vM_down, .long vM_sharesUp, .long vM_sharesDown, .long vM_onUp, .long vM_onDown, .int vM_great, .ref aM_path, .ref aM_gets, .int vM_triedOff, .int vM_triedLeaked, .int vM_triedKept, .ref aM_gotNow, .int vM_fitting, .int vM_firstSet, .int vM_inAll, .int vM_inAny, .int vM_at, .int vM_sort, .int vM_from, .long vM_value, .int vM_fault, .ref aM_bitsOf, .ref aM_sizeOf, .ref aM_number, .ref aM_passing])), (aM_d, .inl (cyI, 64, .inl cM_d)), (aM_came, .inl (cyI, 10, .inl cM_came)), (aM_got, .inl (cyI, 10, .inl cM_got)), (aM_held, .inl (cyI, 10, .inl cM_held)), (aM_off, .inl (cyI, 10, .inl cM_off)), (aM_found, .inl (cyI, 7, .inl cM_found))]
set_option maxHeartbeats 4000000 in
set_option maxRecDepth 100000 in
theorem t_X8_wear (l : Launch) (D : va_G) (cyI cyJ cyZ cyB cyO : ClassId) (aM aM_d aM_came aM_got aM_held aM_off aM_found aM_e aM_f aM_kept aM_tape aM_comesUp aM_comesDown aM_path aM_gets aM_gotNow aM_bitsOf aM_sizeOf aM_number aM_passing : Nat) (vM_isKept : Int32) (vM_taped : Int32) (vM_leaked : Int32) (vM_keptAll : Int32) (vM_offAll : Int32) (vM_up : Int64) (vM_down : Int64) (vM_sharesUp : Int64) (vM_sharesDown : Int64) (vM_onUp : Int64) (vM_onDown : Int64) (vM_great : Int32) (vM_triedOff : Int32) (vM_triedLeaked : Int32) (vM_triedKept : Int32) (vM_fitting : Int32) (vM_firstSet : Int32) (vM_inAll : Int32) (vM_inAny : Int32) (vM_at : Int32) (vM_sort : Int32) (vM_from : Int32) (vM_value : Int64) (vM_fault : Int32) (cM_d : Nat → Int32) (cM_came : Nat → Int32) (cM_got : Nat → Int32) (cM_held : Nat → Int32) (cM_off : Nat → Int32) (cM_found : Nat → Int32) (x1 : Int32) (out : Int32 × Int32 × Int32 × Int32 × (Nat → Int32) × (Nat → Int32) × (Nat → Int32) × (Nat → Int32) × (Nat → Int32) × (Nat → Int32)) (h : f_X8_wear x1 vM_leaked vM_keptAll vM_offAll cM_d cM_came cM_got cM_held cM_off cM_found = some out) : Mi l yX8_wear wsX8_wear ({ frames := 3, cells := 0, slots := 0, locals := 74 } : Room) D (tyA cyI cyJ cyZ cyB cyO) [.ref aM, .int x1] (w_X8_wear cyI cyJ cyZ cyB cyO aM aM_d aM_came aM_got aM_held aM_off aM_found aM_e aM_f aM_kept aM_tape aM_comesUp aM_comesDown aM_path aM_gets aM_gotNow aM_bitsOf aM_sizeOf aM_number aM_passing vM_isKept vM_taped vM_leaked vM_keptAll vM_offAll vM_up vM_down vM_sharesUp vM_sharesDown vM_onUp vM_onDown vM_great vM_triedOff vM_triedLeaked vM_triedKept vM_fitting vM_firstSet vM_inAll vM_inAny vM_at vM_sort vM_from vM_value vM_fault cM_d cM_came cM_got cM_held cM_off cM_found) (w_X8_wear cyI cyJ cyZ cyB cyO aM aM_d aM_came aM_got aM_held aM_off aM_found aM_e aM_f aM_kept aM_tape aM_comesUp aM_comesDown aM_path aM_gets aM_gotNow aM_bitsOf aM_sizeOf aM_number aM_passing vM_isKept vM_taped out.2.1 out.2.2.1 out.2.2.2.1 vM_up vM_down vM_sharesUp vM_sharesDown vM_onUp vM_onDown vM_great vM_triedOff vM_triedLeaked vM_triedKept vM_fitting vM_firstSet vM_inAll vM_inAny vM_at vM_sort vM_from vM_value vM_fault out.2.2.2.2.1 out.2.2.2.2.2.1 out.2.2.2.2.2.2.1 out.2.2.2.2.2.2.2.1 out.2.2.2.2.2.2.2.2.1 out.2.2.2.2.2.2.2.2.2) out.1 := by
  refine Mi.mk (cc := cX8_wear) (maxL := 4) (rt := .int) (own := RX8) (by decide) rfl rfl (Nat.le_of_ble_eq_true rfl) ?_
  intro p e s m args below meth c A Q F hK hP hD hA hret ls hl
  obtain ⟨hx, hb, hml, hown, hts⟩ := id F
  have hS : va_S A s.heap s.heap [] := va_S.rf
  have hl : lv_has ls 4 [(0, .ref aM), (1, .int x1)] := hl
  have in_X8 : ∀ w ∈ wsX80, w ∈ wsX8_wear := by decide +kernel
  have q1 := hts (Cond.constantLong RX8 270 (12)) (List.mem_of_getElem? (i := 1) rfl)
  have q4 := hts (Cond.methodLink RX8 70 yX8_in) (List.mem_of_getElem? (i := 4) rfl)
  have q2 := hts (Cond.fieldLink RX8 7 "ThirdFountainModel" "d" "[I") (List.mem_of_getElem? (i := 2) rfl)
  have q23 := hts (Cond.methodLink RX8 102 yX8_look) (List.mem_of_getElem? (i := 23) rfl)
  have q3 := hts (Cond.fieldLink RX8 82 "ThirdFountainModel" "keptAll" "I") (List.mem_of_getElem? (i := 3) rfl)
  have q14 := hts (Cond.methodLink RX8 272 yX8_drawn) (List.mem_of_getElem? (i := 14) rfl)
  have q19 := hts (Cond.methodLink RX8 105 yX8_sets) (List.mem_of_getElem? (i := 19) rfl)
  have q8 := hts (Cond.methodLink RX8 115 yX8_finds) (List.mem_of_getElem? (i := 8) rfl)
  unfold f_X8_wear at h
  refine lv_iload_n hx hb dX8_wear_0 rfl (lv_at hl 1 rfl) ?_
  refine lv_i2l hx hb dX8_wear_1 rfl ?_
  refine lv_lconst (v := 1) hx hb dX8_wear_2 (by decide) ?_
  refine lv_ldc2 (v := 12) hx hb hown q1 dX8_wear_3 ?_
  obtain ⟨u1, hu1, h⟩ := bd_some h
  refine cl_Si (rest := []) F hK hP hD hS hA hl (t_X8_in l D cyI cyJ cyZ cyB cyO x1.toInt64 (1 : Int64) (12 : Int64) u1 hu1) (va_cwS 3 hts gX8_wear_X8_in rfl rfl rfl (by decide +kernel) ⟨Nat.le_of_ble_eq_true rfl, Nat.le_of_ble_eq_true rfl⟩) [] [0, 0, 0, 0, 0, 0, 0] [] (w_X8_wear cyI cyJ cyZ cyB cyO aM aM_d aM_came aM_got aM_held aM_off aM_found aM_e aM_f aM_kept aM_tape aM_comesUp aM_comesDown aM_path aM_gets aM_gotNow aM_bitsOf aM_sizeOf aM_number aM_passing vM_isKept vM_taped vM_leaked vM_keptAll vM_offAll vM_up vM_down vM_sharesUp vM_sharesDown vM_onUp vM_onDown vM_great vM_triedOff vM_triedLeaked vM_triedKept vM_fitting vM_firstSet vM_inAll vM_inAny vM_at vM_sort vM_from vM_value vM_fault cM_d cM_came cM_got cM_held cM_off cM_found) rfl rfl rfl (by decide +kernel) rfl rfl (Nat.le_of_ble_eq_true rfl) ⟨Nat.zero_le _, Nat.zero_le _⟩ dX8_wear_6 (fun H locs hP hD hS => ?_)
  refine lv_if_ne (tgt := 18) hx hb dX8_wear_9 (by decide) (fun c2 => ?_) (fun c2 => ?_)
  · have h := br_neg c2 h
    refine lv_aload_n hx hb dX8_wear_18 rfl (lv_at hl 0 rfl) ?_
    refine va_get (D := D) (ci := 7) (v := .ref aM_d) (C := RX8) (T := TX8) (N := 43) hx hb hts in_X8 hown hK hP 0 rfl rfl 0 (by decide) q2 (fun _ h9 => h9) rfl dX8_wear_19 ?_
    refine lv_iconst (v := 0) hx hb dX8_wear_22 (by decide) ?_
    refine va_iald hx hb hK hP 1 0 rfl rfl (by unfold vp_in; decide) dX8_wear_23 ?_
    refine lv_if_ne (tgt := 33) hx hb dX8_wear_24 (by decide) (fun c3 => ?_) (fun c3 => ?_)
    · have h := br_neg c3 h
      refine lv_iconst (v := 0) hx hb dX8_wear_33 (by decide) ?_
      refine lv_istore_n (lv' := [(2, .int (0 : Int32)), (0, .ref aM), (1, .int x1)]) hx hb dX8_wear_34 rfl hl (by decide) rfl (fun ls hl => ?_)
      have lp35 : ∀ (k35 : Nat) (y2 : Int32) (vM_leaked : Int32) (vM_keptAll : Int32) (vM_offAll : Int32) (cM_d : Nat → Int32) (cM_came : Nat → Int32) (cM_got : Nat → Int32) (cM_held : Nat → Int32) (cM_off : Nat → Int32) (cM_found : Nat → Int32) (H : Heap) (locs : List Loc) (ls : Array Slot), va_P D vwCl (w_X8_wear cyI cyJ cyZ cyB cyO aM aM_d aM_came aM_got aM_held aM_off aM_found aM_e aM_f aM_kept aM_tape aM_comesUp aM_comesDown aM_path aM_gets aM_gotNow aM_bitsOf aM_sizeOf aM_number aM_passing vM_isKept vM_taped vM_leaked vM_keptAll vM_offAll vM_up vM_down vM_sharesUp vM_sharesDown vM_onUp vM_onDown vM_great vM_triedOff vM_triedLeaked vM_triedKept vM_fitting vM_firstSet vM_inAll vM_inAny vM_at vM_sort vM_from vM_value vM_fault cM_d cM_came cM_got cM_held cM_off cM_found) H → va_D A (w_X8_wear cyI cyJ cyZ cyB cyO aM aM_d aM_came aM_got aM_held aM_off aM_found aM_e aM_f aM_kept aM_tape aM_comesUp aM_comesDown aM_path aM_gets aM_gotNow aM_bitsOf aM_sizeOf aM_number aM_passing vM_isKept vM_taped vM_leaked vM_keptAll vM_offAll vM_up vM_down vM_sharesUp vM_sharesDown vM_onUp vM_onDown vM_great vM_triedOff vM_triedLeaked vM_triedKept vM_fitting vM_firstSet vM_inAll vM_inAny vM_at vM_sort vM_from vM_value vM_fault cM_d cM_came cM_got cM_held cM_off cM_found) → va_S A s.heap H locs → lv_has ls 4 [(2, .int y2), (0, .ref aM), (1, .int x1)] → (f_X8_wear_L35 x1 k35) (y2, vM_leaked, vM_keptAll, vM_offAll, cM_d, cM_came, cM_got, cM_held, cM_off, cM_found) = some out → W p l e ({ frames := 3, cells := 0, slots := 0, locals := 74 } : Room) s m args below meth c H locs 0 0 Q (F0 m 35 ls []) := by
        intro k35
        induction k35 with
        | zero => intro y2 vM_leaked vM_keptAll vM_offAll cM_d cM_came cM_got cM_held cM_off cM_found H locs ls hP hD hS hl h; cases h
        | succ k35 ih35 =>
          intro y2 vM_leaked vM_keptAll vM_offAll cM_d cM_came cM_got cM_held cM_off cM_found H locs ls hP hD hS hl h
          have h : f_X8_wear_L35_b x1 (f_X8_wear_L35 x1 k35) y2 vM_leaked vM_keptAll vM_offAll cM_d cM_came cM_got cM_held cM_off cM_found = some out := h
          unfold f_X8_wear_L35_b at h
          refine lv_iload_n hx hb dX8_wear_35 rfl (lv_at hl 0 rfl) ?_
          refine lv_iload_n hx hb dX8_wear_36 rfl (lv_at hl 2 rfl) ?_
          refine lv_icmp_ge (tgt := 71) hx hb dX8_wear_37 (by decide) (fun c4 => ?_) (fun c4 => ?_)
          · have h := br_pos c4 h
            refine lv_aload_n hx hb dX8_wear_71 rfl (lv_at hl 1 rfl) ?_
            obtain ⟨u5, hu5, h⟩ := bd_some h
            refine cl_Vv (rest := []) F hK hP hD hS hA hl (t_X8_look l D cyI cyJ cyZ cyB cyO aM aM_d aM_came aM_got aM_held aM_off aM_e aM_f aM_kept aM_found aM_tape aM_comesUp aM_comesDown aM_path aM_gets aM_gotNow aM_bitsOf aM_sizeOf aM_number aM_passing vM_isKept vM_taped vM_leaked vM_keptAll vM_offAll vM_up vM_down vM_sharesUp vM_sharesDown vM_onUp vM_onDown vM_great vM_triedOff vM_triedLeaked vM_triedKept vM_fitting vM_firstSet vM_inAll vM_inAny vM_at vM_sort vM_from vM_value vM_fault cM_d cM_came cM_got cM_held cM_off u5 hu5) (cwV 0 hts gX8_wear_X8_look rfl rfl rfl (by decide +kernel) ⟨Nat.le_of_ble_eq_true rfl, Nat.le_of_ble_eq_true rfl⟩) 0 [0, 1, 2, 3, 4, 5] [1, 2, 3, 4, 5, 6, 0] [] (w_X8_wear cyI cyJ cyZ cyB cyO aM aM_d aM_came aM_got aM_held aM_off aM_found aM_e aM_f aM_kept aM_tape aM_comesUp aM_comesDown aM_path aM_gets aM_gotNow aM_bitsOf aM_sizeOf aM_number aM_passing vM_isKept vM_taped u5.1 u5.2.1 u5.2.2.1 vM_up vM_down vM_sharesUp vM_sharesDown vM_onUp vM_onDown vM_great vM_triedOff vM_triedLeaked vM_triedKept vM_fitting vM_firstSet vM_inAll vM_inAny vM_at vM_sort vM_from vM_value vM_fault cM_d u5.2.2.2.1 u5.2.2.2.2.1 u5.2.2.2.2.2.1 u5.2.2.2.2.2.2 cM_found) rfl rfl rfl rfl rfl (by decide +kernel) rfl rfl (Nat.le_of_ble_eq_true rfl) ⟨Nat.zero_le _, Nat.zero_le _⟩ dX8_wear_72 (fun H locs hP hD hS => ?_)
            refine lv_aload_n hx hb dX8_wear_75 rfl (lv_at hl 1 rfl) ?_
            refine va_get (D := D) (ci := 7) (v := .int u5.2.1) (C := RX8) (T := TX8) (N := 43) hx hb hts in_X8 hown hK hP 0 rfl rfl 13 (by decide) q3 (fun _ h9 => h9) rfl dX8_wear_76 ?_
            obtain rfl := Option.some.inj h
            exact hret _ _ _ _ _ hP hD hS dX8_wear_79 rfl rfl
          · have h := br_neg c4 h
            refine lv_aload_n hx hb dX8_wear_40 rfl (lv_at hl 1 rfl) ?_
            obtain ⟨u6, hu6, h⟩ := bd_some h
            refine cl_Vi (rest := []) F hK hP hD hS hA hl (t_X8_drawn l D cyI cyJ cyZ cyB cyO aM aM_d aM_e aM_f aM_kept aM_found aM_tape aM_came aM_got aM_held aM_off aM_comesUp aM_comesDown aM_path aM_gets aM_gotNow aM_bitsOf aM_sizeOf aM_number aM_passing vM_isKept vM_taped vM_leaked vM_keptAll vM_offAll vM_up vM_down vM_sharesUp vM_sharesDown vM_onUp vM_onDown vM_great vM_triedOff vM_triedLeaked vM_triedKept vM_fitting vM_firstSet vM_inAll vM_inAny vM_at vM_sort vM_from vM_value vM_fault cM_d u6 hu6) (cwV 0 hts gX8_wear_X8_drawn rfl rfl rfl (by decide +kernel) ⟨Nat.le_of_ble_eq_true rfl, Nat.le_of_ble_eq_true rfl⟩) 0 [0, 1] [1, 2, 0, 0, 0, 0, 0] [] (w_X8_wear cyI cyJ cyZ cyB cyO aM aM_d aM_came aM_got aM_held aM_off aM_found aM_e aM_f aM_kept aM_tape aM_comesUp aM_comesDown aM_path aM_gets aM_gotNow aM_bitsOf aM_sizeOf aM_number aM_passing vM_isKept vM_taped vM_leaked vM_keptAll vM_offAll vM_up vM_down vM_sharesUp vM_sharesDown vM_onUp vM_onDown vM_great vM_triedOff vM_triedLeaked vM_triedKept vM_fitting vM_firstSet vM_inAll vM_inAny vM_at vM_sort vM_from vM_value vM_fault u6.2 cM_came cM_got cM_held cM_off cM_found) rfl rfl rfl rfl rfl (by decide +kernel) rfl rfl (Nat.le_of_ble_eq_true rfl) ⟨Nat.zero_le _, Nat.zero_le _⟩ dX8_wear_41 (fun H locs hP hD hS => ?_)
            refine lv_aload_n hx hb dX8_wear_44 rfl (lv_at hl 1 rfl) ?_
            refine va_get (D := D) (ci := 7) (v := .ref aM_d) (C := RX8) (T := TX8) (N := 43) hx hb hts in_X8 hown hK hP 0 rfl rfl 0 (by decide) q2 (fun _ h9 => h9) rfl dX8_wear_45 ?_
            refine lv_iconst (v := 0) hx hb dX8_wear_48 (by decide) ?_
            refine va_iald hx hb hK hP 1 0 rfl rfl (by unfold vp_in; decide) dX8_wear_49 ?_
            obtain ⟨g7, h⟩ := gd_some h
            refine lv_irem hx hb dX8_wear_50 g7 ?_
            refine lv_topi (fun z8 ez8 => ?_)
            have h := nm_at ez8 h
            refine lv_istore_n (lv' := [(3, .int z8), (2, .int y2), (0, .ref aM), (1, .int x1)]) hx hb dX8_wear_51 rfl hl (by decide) rfl (fun ls hl => ?_)
            refine lv_aload_n hx hb dX8_wear_52 rfl (lv_at hl 2 rfl) ?_
            refine lv_iload_n hx hb dX8_wear_53 rfl (lv_at hl 0 rfl) ?_
            refine lv_iconst (v := 0) hx hb dX8_wear_54 (by decide) ?_
            refine lv_aload_n hx hb dX8_wear_55 rfl (lv_at hl 2 rfl) ?_
            obtain ⟨u9, hu9, h⟩ := bd_some h
            refine cl_Vi (rest := [.int (0 : Int32), .int z8, .ref aM]) F hK hP hD hS hA hl (t_X8_drawn l D cyI cyJ cyZ cyB cyO aM aM_d aM_e aM_f aM_kept aM_found aM_tape aM_came aM_got aM_held aM_off aM_comesUp aM_comesDown aM_path aM_gets aM_gotNow aM_bitsOf aM_sizeOf aM_number aM_passing vM_isKept vM_taped vM_leaked vM_keptAll vM_offAll vM_up vM_down vM_sharesUp vM_sharesDown vM_onUp vM_onDown vM_great vM_triedOff vM_triedLeaked vM_triedKept vM_fitting vM_firstSet vM_inAll vM_inAny vM_at vM_sort vM_from vM_value vM_fault u6.2 u9 hu9) (cwV 0 hts gX8_wear_X8_drawn rfl rfl rfl (by decide +kernel) ⟨Nat.le_of_ble_eq_true rfl, Nat.le_of_ble_eq_true rfl⟩) 0 [0, 1] [1, 2, 0, 0, 0, 0, 0] [] (w_X8_wear cyI cyJ cyZ cyB cyO aM aM_d aM_came aM_got aM_held aM_off aM_found aM_e aM_f aM_kept aM_tape aM_comesUp aM_comesDown aM_path aM_gets aM_gotNow aM_bitsOf aM_sizeOf aM_number aM_passing vM_isKept vM_taped vM_leaked vM_keptAll vM_offAll vM_up vM_down vM_sharesUp vM_sharesDown vM_onUp vM_onDown vM_great vM_triedOff vM_triedLeaked vM_triedKept vM_fitting vM_firstSet vM_inAll vM_inAny vM_at vM_sort vM_from vM_value vM_fault u9.2 cM_came cM_got cM_held cM_off cM_found) rfl rfl rfl rfl rfl (by decide +kernel) rfl rfl (Nat.le_of_ble_eq_true rfl) ⟨Nat.zero_le _, Nat.zero_le _⟩ dX8_wear_56 (fun H locs hP hD hS => ?_)
            refine lv_bipush (v := 7) hx hb dX8_wear_59 (by decide) ?_
            refine lv_irem hx hb dX8_wear_61 (by decide) ?_
            obtain ⟨u10, hu10, h⟩ := bd_some h
            refine cl_Vv (rest := []) F hK hP hD hS hA hl (t_X8_sets l D cyI cyJ cyZ cyB cyO aM aM_d aM_e aM_f aM_kept aM_found aM_tape aM_came aM_got aM_held aM_off aM_comesUp aM_comesDown aM_path aM_gets aM_gotNow aM_bitsOf aM_sizeOf aM_number aM_passing vM_isKept vM_taped vM_leaked vM_keptAll vM_offAll vM_up vM_down vM_sharesUp vM_sharesDown vM_onUp vM_onDown vM_great vM_triedOff vM_triedLeaked vM_triedKept vM_fitting vM_firstSet vM_inAll vM_inAny vM_at vM_sort vM_from vM_value vM_fault u9.2 z8 (0 : Int32) (u9.1 - u9.1 / (7 : Int32) * (7 : Int32)) u10 hu10) (cwV 3 hts gX8_wear_X8_sets rfl rfl rfl (by decide +kernel) ⟨Nat.le_of_ble_eq_true rfl, Nat.le_of_ble_eq_true rfl⟩) 0 [0, 1] [1, 2, 0, 0, 0, 0, 0] [] (w_X8_wear cyI cyJ cyZ cyB cyO aM aM_d aM_came aM_got aM_held aM_off aM_found aM_e aM_f aM_kept aM_tape aM_comesUp aM_comesDown aM_path aM_gets aM_gotNow aM_bitsOf aM_sizeOf aM_number aM_passing vM_isKept vM_taped vM_leaked vM_keptAll vM_offAll vM_up vM_down vM_sharesUp vM_sharesDown vM_onUp vM_onDown vM_great vM_triedOff vM_triedLeaked vM_triedKept vM_fitting vM_firstSet vM_inAll vM_inAny vM_at vM_sort vM_from vM_value vM_fault u10 cM_came cM_got cM_held cM_off cM_found) rfl rfl rfl rfl rfl (by decide +kernel) rfl rfl (Nat.le_of_ble_eq_true rfl) ⟨Nat.zero_le _, Nat.zero_le _⟩ dX8_wear_62 (fun H locs hP hD hS => ?_)
            refine lv_iinc (v := y2 + 1) (lv' := [(2, .int (y2 + 1)), (3, .int z8), (0, .ref aM), (1, .int x1)]) hx hb dX8_wear_65 hl (k := 1) rfl rfl (by decide) rfl (fun ls hl => ?_)
            refine lv_goto (tgt := 35) hx hb dX8_wear_68 (by decide) ?_
            exact ih35 (y2 + 1) vM_leaked vM_keptAll vM_offAll u10 cM_came cM_got cM_held cM_off cM_found _ _ _ hP hD hS (lv_sub hl [0, 2, 3] rfl) h
      exact lp35 FU (0 : Int32) vM_leaked vM_keptAll vM_offAll cM_d cM_came cM_got cM_held cM_off cM_found _ _ _ hP hD hS (lv_sub hl [0, 1, 2] rfl) h
    · have h := br_pos c3 h
      refine lv_aload_n hx hb dX8_wear_27 rfl (lv_at hl 0 rfl) ?_
      refine lv_iconst (v := 4) hx hb dX8_wear_28 (by decide) ?_
      obtain ⟨u11, hu11, h⟩ := bd_some h
      refine cl_Vi (rest := []) F hK hP hD hS hA hl (t_X8_finds l D cyI cyJ cyZ cyB cyO aM aM_found aM_d aM_e aM_f aM_kept aM_tape aM_came aM_got aM_held aM_off aM_comesUp aM_comesDown aM_path aM_gets aM_gotNow aM_bitsOf aM_sizeOf aM_number aM_passing vM_isKept vM_taped vM_leaked vM_keptAll vM_offAll vM_up vM_down vM_sharesUp vM_sharesDown vM_onUp vM_onDown vM_great vM_triedOff vM_triedLeaked vM_triedKept vM_fitting vM_firstSet vM_inAll vM_inAny vM_at vM_sort vM_from vM_value vM_fault cM_found (4 : Int32) u11 hu11) (cwV 1 hts gX8_wear_X8_finds rfl rfl rfl (by decide +kernel) ⟨Nat.le_of_ble_eq_true rfl, Nat.le_of_ble_eq_true rfl⟩) 0 [0, 6] [1, 0, 0, 0, 0, 0, 2] [] (w_X8_wear cyI cyJ cyZ cyB cyO aM aM_d aM_came aM_got aM_held aM_off aM_found aM_e aM_f aM_kept aM_tape aM_comesUp aM_comesDown aM_path aM_gets aM_gotNow aM_bitsOf aM_sizeOf aM_number aM_passing vM_isKept vM_taped vM_leaked vM_keptAll vM_offAll vM_up vM_down vM_sharesUp vM_sharesDown vM_onUp vM_onDown vM_great vM_triedOff vM_triedLeaked vM_triedKept vM_fitting vM_firstSet vM_inAll vM_inAny vM_at vM_sort vM_from vM_value vM_fault cM_d cM_came cM_got cM_held cM_off u11.2) rfl rfl rfl rfl rfl (by decide +kernel) rfl rfl (Nat.le_of_ble_eq_true rfl) ⟨Nat.zero_le _, Nat.zero_le _⟩ dX8_wear_29 (fun H locs hP hD hS => ?_)
      obtain rfl := Option.some.inj h
      exact hret _ _ _ _ _ hP hD hS dX8_wear_32 rfl rfl
  · have h := br_pos c2 h
    refine lv_aload_n hx hb dX8_wear_12 rfl (lv_at hl 0 rfl) ?_
    refine lv_iconst (v := 0) hx hb dX8_wear_13 (by decide) ?_
    obtain ⟨u12, hu12, h⟩ := bd_some h
    refine cl_Vi (rest := []) F hK hP hD hS hA hl (t_X8_finds l D cyI cyJ cyZ cyB cyO aM aM_found aM_d aM_e aM_f aM_kept aM_tape aM_came aM_got aM_held aM_off aM_comesUp aM_comesDown aM_path aM_gets aM_gotNow aM_bitsOf aM_sizeOf aM_number aM_passing vM_isKept vM_taped vM_leaked vM_keptAll vM_offAll vM_up vM_down vM_sharesUp vM_sharesDown vM_onUp vM_onDown vM_great vM_triedOff vM_triedLeaked vM_triedKept vM_fitting vM_firstSet vM_inAll vM_inAny vM_at vM_sort vM_from vM_value vM_fault cM_found (0 : Int32) u12 hu12) (cwV 1 hts gX8_wear_X8_finds rfl rfl rfl (by decide +kernel) ⟨Nat.le_of_ble_eq_true rfl, Nat.le_of_ble_eq_true rfl⟩) 0 [0, 6] [1, 0, 0, 0, 0, 0, 2] [] (w_X8_wear cyI cyJ cyZ cyB cyO aM aM_d aM_came aM_got aM_held aM_off aM_found aM_e aM_f aM_kept aM_tape aM_comesUp aM_comesDown aM_path aM_gets aM_gotNow aM_bitsOf aM_sizeOf aM_number aM_passing vM_isKept vM_taped vM_leaked vM_keptAll vM_offAll vM_up vM_down vM_sharesUp vM_sharesDown vM_onUp vM_onDown vM_great vM_triedOff vM_triedLeaked vM_triedKept vM_fitting vM_firstSet vM_inAll vM_inAny vM_at vM_sort vM_from vM_value vM_fault cM_d cM_came cM_got cM_held cM_off u12.2) rfl rfl rfl rfl rfl (by decide +kernel) rfl rfl (Nat.le_of_ble_eq_true rfl) ⟨Nat.zero_le _, Nat.zero_le _⟩ dX8_wear_14 (fun H locs hP hD hS => ?_)
    obtain rfl := Option.some.inj h
    exact hret _ _ _ _ _ hP hD hS dX8_wear_17 rfl rfl
/-! ===== X8_seed ===== -/
def w_X8_seed (cyI cyJ cyZ cyB cyO : ClassId) (aM aM_d aM_e aM_f aM_kept aM_found aM_tape aM_came aM_got aM_held aM_off aM_comesUp aM_comesDown aM_path aM_gets aM_gotNow aM_bitsOf aM_sizeOf aM_number aM_passing : Nat) (vM_isKept : Int32) (vM_taped : Int32) (vM_leaked : Int32) (vM_keptAll : Int32) (vM_offAll : Int32) (vM_up : Int64) (vM_down : Int64) (vM_sharesUp : Int64) (vM_sharesDown : Int64) (vM_onUp : Int64) (vM_onDown : Int64) (vM_great : Int32) (vM_triedOff : Int32) (vM_triedLeaked : Int32) (vM_triedKept : Int32) (vM_fitting : Int32) (vM_firstSet : Int32) (vM_inAll : Int32) (vM_inAny : Int32) (vM_at : Int32) (vM_sort : Int32) (vM_from : Int32) (vM_value : Int64) (vM_fault : Int32) (cM_d : Nat → Int32) : va_W := [(aM, .inr (7, [.ref aM_d, .ref aM_e, .ref aM_f, .ref aM_kept, .int vM_isKept, .ref aM_found, .ref aM_tape, .int vM_taped, .ref aM_came, .ref aM_got, .ref aM_held, .ref aM_off, .int vM_leaked, .int vM_keptAll, .int vM_offAll, .ref aM_comesUp, .ref aM_comesDown, .long vM_up, .long vM_down, .long vM_sharesUp, .long vM_sharesDown, .long vM_onUp, .long vM_onDown, .int vM_great, .ref aM_path, .ref aM_gets, .int vM_triedOff, .int vM_triedLeaked, .int vM_triedKept, .ref aM_gotNow, .int vM_fitting, .int vM_firstSet, .int vM_inAll, .int vM_inAny, .int vM_at, .int vM_sort, .int vM_from, .long vM_value, .int vM_fault, .ref aM_bitsOf, .ref aM_sizeOf, .ref aM_number, .ref aM_passing])), (aM_d, .inl (cyI, 64, .inl cM_d))]
set_option maxHeartbeats 4000000 in
set_option maxRecDepth 100000 in
theorem t_X8_seed (l : Launch) (D : va_G) (cyI cyJ cyZ cyB cyO : ClassId) (aM aM_d aM_e aM_f aM_kept aM_found aM_tape aM_came aM_got aM_held aM_off aM_comesUp aM_comesDown aM_path aM_gets aM_gotNow aM_bitsOf aM_sizeOf aM_number aM_passing : Nat) (vM_isKept : Int32) (vM_taped : Int32) (vM_leaked : Int32) (vM_keptAll : Int32) (vM_offAll : Int32) (vM_up : Int64) (vM_down : Int64) (vM_sharesUp : Int64) (vM_sharesDown : Int64) (vM_onUp : Int64) (vM_onDown : Int64) (vM_great : Int32) (vM_triedOff : Int32) (vM_triedLeaked : Int32) (vM_triedKept : Int32) (vM_fitting : Int32) (vM_firstSet : Int32) (vM_inAll : Int32) (vM_inAny : Int32) (vM_at : Int32) (vM_sort : Int32) (vM_from : Int32) (vM_value : Int64) (vM_fault : Int32) (cM_d : Nat → Int32) (x1 : Int32) (out : Int32 × (Nat → Int32)) (h : f_X8_seed x1 cM_d = some out) : Mi l yX8_seed wsX8_seed ({ frames := 0, cells := 0, slots := 0, locals := 0 } : Room) D (tyA cyI cyJ cyZ cyB cyO) [.ref aM, .int x1] (w_X8_seed cyI cyJ cyZ cyB cyO aM aM_d aM_e aM_f aM_kept aM_found aM_tape aM_came aM_got aM_held aM_off aM_comesUp aM_comesDown aM_path aM_gets aM_gotNow aM_bitsOf aM_sizeOf aM_number aM_passing vM_isKept vM_taped vM_leaked vM_keptAll vM_offAll vM_up vM_down vM_sharesUp vM_sharesDown vM_onUp vM_onDown vM_great vM_triedOff vM_triedLeaked vM_triedKept vM_fitting vM_firstSet vM_inAll vM_inAny vM_at vM_sort vM_from vM_value vM_fault cM_d) (w_X8_seed cyI cyJ cyZ cyB cyO aM aM_d aM_e aM_f aM_kept aM_found aM_tape aM_came aM_got aM_held aM_off aM_comesUp aM_comesDown aM_path aM_gets aM_gotNow aM_bitsOf aM_sizeOf aM_number aM_passing vM_isKept vM_taped vM_leaked vM_keptAll vM_offAll vM_up vM_down vM_sharesUp vM_sharesDown vM_onUp vM_onDown vM_great vM_triedOff vM_triedLeaked vM_triedKept vM_fitting vM_firstSet vM_inAll vM_inAny vM_at vM_sort vM_from vM_value vM_fault out.2) out.1 := by
  refine Mi.mk (cc := cX8_seed) (maxL := 3) (rt := .int) (own := RX8) (by decide) rfl rfl (Nat.le_of_ble_eq_true rfl) ?_
  intro p e s m args below meth c A Q F hK hP hD hA hret ls hl
  obtain ⟨hx, hb, hml, hown, hts⟩ := id F
  have hS : va_S A s.heap s.heap [] := va_S.rf
  have hl : lv_has ls 3 [(0, .ref aM), (1, .int x1)] := hl
  have in_X8 : ∀ w ∈ wsX80, w ∈ wsX8_seed := by decide +kernel
  have q1 := hts (Cond.fieldLink RX8 7 "ThirdFountainModel" "d" "[I") (List.mem_of_getElem? (i := 1) rfl)
  unfold f_X8_seed at h
  refine lv_aload_n hx hb dX8_seed_0 rfl (lv_at hl 0 rfl) ?_
  refine va_get (D := D) (ci := 7) (v := .ref aM_d) (C := RX8) (T := TX8) (N := 43) hx hb hts in_X8 hown hK hP 0 rfl rfl 0 (by decide) q1 (fun _ h9 => h9) rfl dX8_seed_1 ?_
  refine lv_iconst (v := 2) hx hb dX8_seed_4 (by decide) ?_
  refine va_iald hx hb hK hP 1 0 rfl rfl (by unfold vp_in; decide) dX8_seed_5 ?_
  refine lv_topi (fun z1 ez1 => ?_)
  have h := nm_at ez1 h
  refine lv_istore_n (lv' := [(2, .int z1), (0, .ref aM), (1, .int x1)]) hx hb dX8_seed_6 rfl hl (by decide) rfl (fun ls hl => ?_)
  refine lv_aload_n hx hb dX8_seed_7 rfl (lv_at hl 1 rfl) ?_
  refine va_get (D := D) (ci := 7) (v := .ref aM_d) (C := RX8) (T := TX8) (N := 43) hx hb hts in_X8 hown hK hP 0 rfl rfl 0 (by decide) q1 (fun _ h9 => h9) rfl dX8_seed_8 ?_
  refine lv_iconst (v := 2) hx hb dX8_seed_11 (by decide) ?_
  refine lv_iload_n hx hb dX8_seed_12 rfl (lv_at hl 2 rfl) ?_
  refine va_iast hx hb hK hP hD hS 1 0 rfl rfl (by unfold vp_in; decide) dX8_seed_13 (fun H locs hP hD hS => ?_)
  have hP : va_P D vwCl (w_X8_seed cyI cyJ cyZ cyB cyO aM aM_d aM_e aM_f aM_kept aM_found aM_tape aM_came aM_got aM_held aM_off aM_comesUp aM_comesDown aM_path aM_gets aM_gotNow aM_bitsOf aM_sizeOf aM_number aM_passing vM_isKept vM_taped vM_leaked vM_keptAll vM_offAll vM_up vM_down vM_sharesUp vM_sharesDown vM_onUp vM_onDown vM_great vM_triedOff vM_triedLeaked vM_triedKept vM_fitting vM_firstSet vM_inAll vM_inAny vM_at vM_sort vM_from vM_value vM_fault (upd cM_d (2 : Int32).toNatClampNeg x1)) H := hP
  have hD : va_D A (w_X8_seed cyI cyJ cyZ cyB cyO aM aM_d aM_e aM_f aM_kept aM_found aM_tape aM_came aM_got aM_held aM_off aM_comesUp aM_comesDown aM_path aM_gets aM_gotNow aM_bitsOf aM_sizeOf aM_number aM_passing vM_isKept vM_taped vM_leaked vM_keptAll vM_offAll vM_up vM_down vM_sharesUp vM_sharesDown vM_onUp vM_onDown vM_great vM_triedOff vM_triedLeaked vM_triedKept vM_fitting vM_firstSet vM_inAll vM_inAny vM_at vM_sort vM_from vM_value vM_fault (upd cM_d (2 : Int32).toNatClampNeg x1)) := hD
  refine lv_iload_n hx hb dX8_seed_14 rfl (lv_at hl 0 rfl) ?_
  obtain rfl := Option.some.inj h
  exact hret _ _ _ _ _ hP hD hS dX8_seed_15 rfl rfl
/-! ===== X8_feed ===== -/
def w_X8_feed (cyI cyJ cyZ cyB cyO : ClassId) (aM aM_tape aM_found aM_d aM_e aM_f aM_kept aM_came aM_got aM_held aM_off aM_comesUp aM_comesDown aM_path aM_gets aM_gotNow aM_bitsOf aM_sizeOf aM_number aM_passing : Nat) (vM_isKept : Int32) (vM_taped : Int32) (vM_leaked : Int32) (vM_keptAll : Int32) (vM_offAll : Int32) (vM_up : Int64) (vM_down : Int64) (vM_sharesUp : Int64) (vM_sharesDown : Int64) (vM_onUp : Int64) (vM_onDown : Int64) (vM_great : Int32) (vM_triedOff : Int32) (vM_triedLeaked : Int32) (vM_triedKept : Int32) (vM_fitting : Int32) (vM_firstSet : Int32) (vM_inAll : Int32) (vM_inAny : Int32) (vM_at : Int32) (vM_sort : Int32) (vM_from : Int32) (vM_value : Int64) (vM_fault : Int32) (cM_tape : Nat → Int32) (cM_found : Nat → Int32) : va_W := [(aM, .inr (7, [.ref aM_d, .ref aM_e, .ref aM_f, .ref aM_kept, .int vM_isKept, .ref aM_found, .ref aM_tape, .int vM_taped, .ref aM_came, .ref aM_got, .ref aM_held, .ref aM_off, .int vM_leaked, .int vM_keptAll, .int vM_offAll, .ref aM_comesUp, .ref aM_comesDown, .long vM_up, .long vM_down, .long vM_sharesUp, .long vM_sharesDown, .long vM_onUp, .long vM_onDown, .int vM_great, .ref aM_path, .ref aM_gets, .int vM_triedOff, .int vM_triedLeaked, .int vM_triedKept, .ref aM_gotNow, .int vM_fitting, .int vM_firstSet, .int vM_inAll, .int vM_inAny, .int vM_at, .int vM_sort, .int vM_from, .long vM_value, .int vM_fault, .ref aM_bitsOf, .ref aM_sizeOf, .ref aM_number, .ref aM_passing])), (aM_tape, .inl (cyB, 120, .inl cM_tape)), (aM_found, .inl (cyI, 7, .inl cM_found))]
set_option maxHeartbeats 4000000 in
set_option maxRecDepth 100000 in
theorem t_X8_feed (l : Launch) (D : va_G) (cyI cyJ cyZ cyB cyO : ClassId) (aM aM_tape aM_found aM_d aM_e aM_f aM_kept aM_came aM_got aM_held aM_off aM_comesUp aM_comesDown aM_path aM_gets aM_gotNow aM_bitsOf aM_sizeOf aM_number aM_passing : Nat) (vM_isKept : Int32) (vM_taped : Int32) (vM_leaked : Int32) (vM_keptAll : Int32) (vM_offAll : Int32) (vM_up : Int64) (vM_down : Int64) (vM_sharesUp : Int64) (vM_sharesDown : Int64) (vM_onUp : Int64) (vM_onDown : Int64) (vM_great : Int32) (vM_triedOff : Int32) (vM_triedLeaked : Int32) (vM_triedKept : Int32) (vM_fitting : Int32) (vM_firstSet : Int32) (vM_inAll : Int32) (vM_inAny : Int32) (vM_at : Int32) (vM_sort : Int32) (vM_from : Int32) (vM_value : Int64) (vM_fault : Int32) (cM_tape : Nat → Int32) (cM_found : Nat → Int32) (x1 : Int32) (x2 : Int32) (out : Int32 × Int32 × (Nat → Int32) × (Nat → Int32)) (h : f_X8_feed x1 x2 vM_taped cM_tape cM_found = some out) : Mi l yX8_feed wsX8_feed ({ frames := 1, cells := 0, slots := 0, locals := 25 } : Room) D (tyA cyI cyJ cyZ cyB cyO) [.ref aM, .int x1, .int x2] (w_X8_feed cyI cyJ cyZ cyB cyO aM aM_tape aM_found aM_d aM_e aM_f aM_kept aM_came aM_got aM_held aM_off aM_comesUp aM_comesDown aM_path aM_gets aM_gotNow aM_bitsOf aM_sizeOf aM_number aM_passing vM_isKept vM_taped vM_leaked vM_keptAll vM_offAll vM_up vM_down vM_sharesUp vM_sharesDown vM_onUp vM_onDown vM_great vM_triedOff vM_triedLeaked vM_triedKept vM_fitting vM_firstSet vM_inAll vM_inAny vM_at vM_sort vM_from vM_value vM_fault cM_tape cM_found) (w_X8_feed cyI cyJ cyZ cyB cyO aM aM_tape aM_found aM_d aM_e aM_f aM_kept aM_came aM_got aM_held aM_off aM_comesUp aM_comesDown aM_path aM_gets aM_gotNow aM_bitsOf aM_sizeOf aM_number aM_passing vM_isKept out.2.1 vM_leaked vM_keptAll vM_offAll vM_up vM_down vM_sharesUp vM_sharesDown vM_onUp vM_onDown vM_great vM_triedOff vM_triedLeaked vM_triedKept vM_fitting vM_firstSet vM_inAll vM_inAny vM_at vM_sort vM_from vM_value vM_fault out.2.2.1 out.2.2.2) out.1 := by
  refine Mi.mk (cc := cX8_feed) (maxL := 4) (rt := .int) (own := RX8) (by decide) rfl rfl (Nat.le_of_ble_eq_true rfl) ?_
  intro p e s m args below meth c A Q F hK hP hD hA hret ls hl
  obtain ⟨hx, hb, hml, hown, hts⟩ := id F
  have hS : va_S A s.heap s.heap [] := va_S.rf
  have hl : lv_has ls 4 [(0, .ref aM), (1, .int x1), (2, .int x2)] := hl
  have in_X8 : ∀ w ∈ wsX80, w ∈ wsX8_feed := by decide +kernel
  have q1 := hts (Cond.constantLong RX8 146 (4)) (List.mem_of_getElem? (i := 1) rfl)
  have q4 := hts (Cond.methodLink RX8 70 yX8_in) (List.mem_of_getElem? (i := 4) rfl)
  have q2 := hts (Cond.fieldLink RX8 276 "ThirdFountainModel" "taped" "I") (List.mem_of_getElem? (i := 2) rfl)
  have q3 := hts (Cond.fieldLink RX8 25 "ThirdFountainModel" "tape" "[B") (List.mem_of_getElem? (i := 3) rfl)
  have q8 := hts (Cond.methodLink RX8 115 yX8_finds) (List.mem_of_getElem? (i := 8) rfl)
  unfold f_X8_feed at h
  refine lv_iload_n hx hb dX8_feed_0 rfl (lv_at hl 2 rfl) ?_
  refine lv_i2l hx hb dX8_feed_1 rfl ?_
  refine lv_lconst (v := 1) hx hb dX8_feed_2 (by decide) ?_
  refine lv_ldc2 (v := 4) hx hb hown q1 dX8_feed_3 ?_
  obtain ⟨u1, hu1, h⟩ := bd_some h
  refine cl_Si (rest := []) F hK hP hD hS hA hl (t_X8_in l D cyI cyJ cyZ cyB cyO x2.toInt64 (1 : Int64) (4 : Int64) u1 hu1) (va_cwS 3 hts gX8_feed_X8_in rfl rfl rfl (by decide +kernel) ⟨Nat.le_of_ble_eq_true rfl, Nat.le_of_ble_eq_true rfl⟩) [] [0, 0, 0] [] (w_X8_feed cyI cyJ cyZ cyB cyO aM aM_tape aM_found aM_d aM_e aM_f aM_kept aM_came aM_got aM_held aM_off aM_comesUp aM_comesDown aM_path aM_gets aM_gotNow aM_bitsOf aM_sizeOf aM_number aM_passing vM_isKept vM_taped vM_leaked vM_keptAll vM_offAll vM_up vM_down vM_sharesUp vM_sharesDown vM_onUp vM_onDown vM_great vM_triedOff vM_triedLeaked vM_triedKept vM_fitting vM_firstSet vM_inAll vM_inAny vM_at vM_sort vM_from vM_value vM_fault cM_tape cM_found) rfl rfl rfl (by decide +kernel) rfl rfl (Nat.le_of_ble_eq_true rfl) ⟨Nat.zero_le _, Nat.zero_le _⟩ dX8_feed_6 (fun H locs hP hD hS => ?_)
  refine lv_if_ne (tgt := 18) hx hb dX8_feed_9 (by decide) (fun c2 => ?_) (fun c2 => ?_)
  · have h := br_neg c2 h
    refine lv_aload_n hx hb dX8_feed_18 rfl (lv_at hl 0 rfl) ?_
    refine va_get (D := D) (ci := 7) (v := .int vM_taped) (C := RX8) (T := TX8) (N := 43) hx hb hts in_X8 hown hK hP 0 rfl rfl 7 (by decide) q2 (fun _ h9 => h9) rfl dX8_feed_19 ?_
    refine lv_iload_n hx hb dX8_feed_22 rfl (lv_at hl 2 rfl) ?_
    refine lv_iadd hx hb dX8_feed_23 ?_
    refine lv_bipush (v := 120) hx hb dX8_feed_24 (by decide) ?_
    refine lv_icmp_le (tgt := 35) hx hb dX8_feed_26 (by decide) (fun c3 => ?_) (fun c3 => ?_)
    · have h := br_pos c3 h
      refine lv_iload_n hx hb dX8_feed_35 rfl (lv_at hl 2 rfl) ?_
      refine lv_iconst (v := 1) hx hb dX8_feed_36 (by decide) ?_
      refine lv_isub hx hb dX8_feed_37 ?_
      refine lv_topi (fun z4 ez4 => ?_)
      have h := nm_at ez4 h
      refine lv_istore_n (lv' := [(3, .int z4), (0, .ref aM), (1, .int x1), (2, .int x2)]) hx hb dX8_feed_38 rfl hl (by decide) rfl (fun ls hl => ?_)
      have lp39 : ∀ (k39 : Nat) (y3 : Int32) (vM_taped : Int32) (cM_tape : Nat → Int32) (cM_found : Nat → Int32) (H : Heap) (locs : List Loc) (ls : Array Slot), va_P D vwCl (w_X8_feed cyI cyJ cyZ cyB cyO aM aM_tape aM_found aM_d aM_e aM_f aM_kept aM_came aM_got aM_held aM_off aM_comesUp aM_comesDown aM_path aM_gets aM_gotNow aM_bitsOf aM_sizeOf aM_number aM_passing vM_isKept vM_taped vM_leaked vM_keptAll vM_offAll vM_up vM_down vM_sharesUp vM_sharesDown vM_onUp vM_onDown vM_great vM_triedOff vM_triedLeaked vM_triedKept vM_fitting vM_firstSet vM_inAll vM_inAny vM_at vM_sort vM_from vM_value vM_fault cM_tape cM_found) H → va_D A (w_X8_feed cyI cyJ cyZ cyB cyO aM aM_tape aM_found aM_d aM_e aM_f aM_kept aM_came aM_got aM_held aM_off aM_comesUp aM_comesDown aM_path aM_gets aM_gotNow aM_bitsOf aM_sizeOf aM_number aM_passing vM_isKept vM_taped vM_leaked vM_keptAll vM_offAll vM_up vM_down vM_sharesUp vM_sharesDown vM_onUp vM_onDown vM_great vM_triedOff vM_triedLeaked vM_triedKept vM_fitting vM_firstSet vM_inAll vM_inAny vM_at vM_sort vM_from vM_value vM_fault cM_tape cM_found) → va_S A s.heap H locs → lv_has ls 4 [(3, .int y3), (0, .ref aM), (1, .int x1)] → (f_X8_feed_L39 x1 x2 k39) (y3, vM_taped, cM_tape, cM_found) = some out → W p l e ({ frames := 1, cells := 0, slots := 0, locals := 25 } : Room) s m args below meth c H locs 0 0 Q (F0 m 39 ls []) := by
        intro k39
        induction k39 with
        | zero => intro y3 vM_taped cM_tape cM_found H locs ls hP hD hS hl h; cases h
        | succ k39 ih39 =>
          intro y3 vM_taped cM_tape cM_found H locs ls hP hD hS hl h
          have h : f_X8_feed_L39_b x1 x2 (f_X8_feed_L39 x1 x2 k39) y3 vM_taped cM_tape cM_found = some out := h
          unfold f_X8_feed_L39_b at h
          refine lv_iload_n hx hb dX8_feed_39 rfl (lv_at hl 0 rfl) ?_
          refine lv_if_lt (tgt := 75) hx hb dX8_feed_40 (by decide) (fun c5 => ?_) (fun c5 => ?_)
          · have h := br_pos c5 h
            refine lv_aload_n hx hb dX8_feed_75 rfl (lv_at hl 1 rfl) ?_
            refine va_get (D := D) (ci := 7) (v := .int vM_taped) (C := RX8) (T := TX8) (N := 43) hx hb hts in_X8 hown hK hP 0 rfl rfl 7 (by decide) q2 (fun _ h9 => h9) rfl dX8_feed_76 ?_
            obtain rfl := Option.some.inj h
            exact hret _ _ _ _ _ hP hD hS dX8_feed_79 rfl rfl
          · have h := br_neg c5 h
            refine lv_aload_n hx hb dX8_feed_43 rfl (lv_at hl 1 rfl) ?_
            refine va_get (D := D) (ci := 7) (v := .ref aM_tape) (C := RX8) (T := TX8) (N := 43) hx hb hts in_X8 hown hK hP 0 rfl rfl 6 (by decide) q3 (fun _ h9 => h9) rfl dX8_feed_44 ?_
            refine lv_aload_n hx hb dX8_feed_47 rfl (lv_at hl 1 rfl) ?_
            refine va_get (D := D) (ci := 7) (v := .int vM_taped) (C := RX8) (T := TX8) (N := 43) hx hb hts in_X8 hown hK hP 0 rfl rfl 7 (by decide) q2 (fun _ h9 => h9) rfl dX8_feed_48 ?_
            refine lv_iload_n hx hb dX8_feed_51 rfl (lv_at hl 2 rfl) ?_
            refine lv_bipush (v := 8) hx hb dX8_feed_52 (by decide) ?_
            refine lv_iload_n hx hb dX8_feed_54 rfl (lv_at hl 0 rfl) ?_
            refine lv_imul hx hb dX8_feed_55 ?_
            refine lv_ishr hx hb dX8_feed_56 ?_
            refine lv_i2b hx hb dX8_feed_57 rfl ?_
            obtain ⟨g6, h⟩ := gd_some h
            refine va_bast hx hb hK hP hD hS 1 3 rfl rfl g6 dX8_feed_58 (fun H locs hP hD hS => ?_)
            have hP : va_P D vwCl (w_X8_feed cyI cyJ cyZ cyB cyO aM aM_tape aM_found aM_d aM_e aM_f aM_kept aM_came aM_got aM_held aM_off aM_comesUp aM_comesDown aM_path aM_gets aM_gotNow aM_bitsOf aM_sizeOf aM_number aM_passing vM_isKept vM_taped vM_leaked vM_keptAll vM_offAll vM_up vM_down vM_sharesUp vM_sharesDown vM_onUp vM_onDown vM_great vM_triedOff vM_triedLeaked vM_triedKept vM_fitting vM_firstSet vM_inAll vM_inAny vM_at vM_sort vM_from vM_value vM_fault (upd cM_tape vM_taped.toNatClampNeg (vp_nar .byte ((x1 >>> (((8 : Int32) * y3) &&& 31)).toInt8.toInt32))) cM_found) H := hP
            have hD : va_D A (w_X8_feed cyI cyJ cyZ cyB cyO aM aM_tape aM_found aM_d aM_e aM_f aM_kept aM_came aM_got aM_held aM_off aM_comesUp aM_comesDown aM_path aM_gets aM_gotNow aM_bitsOf aM_sizeOf aM_number aM_passing vM_isKept vM_taped vM_leaked vM_keptAll vM_offAll vM_up vM_down vM_sharesUp vM_sharesDown vM_onUp vM_onDown vM_great vM_triedOff vM_triedLeaked vM_triedKept vM_fitting vM_firstSet vM_inAll vM_inAny vM_at vM_sort vM_from vM_value vM_fault (upd cM_tape vM_taped.toNatClampNeg (vp_nar .byte ((x1 >>> (((8 : Int32) * y3) &&& 31)).toInt8.toInt32))) cM_found) := hD
            refine lv_aload_n hx hb dX8_feed_59 rfl (lv_at hl 1 rfl) ?_
            refine lv_dup hx hb dX8_feed_60 rfl ?_
            refine va_get (D := D) (ci := 7) (v := .int vM_taped) (C := RX8) (T := TX8) (N := 43) hx hb hts in_X8 hown hK hP 0 rfl rfl 7 (by decide) q2 (fun _ h9 => h9) rfl dX8_feed_61 ?_
            refine lv_iconst (v := 1) hx hb dX8_feed_64 (by decide) ?_
            refine lv_iadd hx hb dX8_feed_65 ?_
            refine va_put (D := D) (ci := 7) (v := .int (vM_taped + (1 : Int32))) (ty := .int) (C := RX8) (T := TX8) (N := 43) hx hb hts in_X8 tyX8 tyX8_ok nmX8 hown hK hP hD hS 0 rfl rfl 7 (by decide) q2 (fun _ h9 => h9) rfl (by decide +kernel) rfl rfl (Nat.le_of_ble_eq_true rfl) dX8_feed_66 (fun H locs hP hD hS => ?_)
            have hP : va_P D vwCl (w_X8_feed cyI cyJ cyZ cyB cyO aM aM_tape aM_found aM_d aM_e aM_f aM_kept aM_came aM_got aM_held aM_off aM_comesUp aM_comesDown aM_path aM_gets aM_gotNow aM_bitsOf aM_sizeOf aM_number aM_passing vM_isKept (vM_taped + (1 : Int32)) vM_leaked vM_keptAll vM_offAll vM_up vM_down vM_sharesUp vM_sharesDown vM_onUp vM_onDown vM_great vM_triedOff vM_triedLeaked vM_triedKept vM_fitting vM_firstSet vM_inAll vM_inAny vM_at vM_sort vM_from vM_value vM_fault (upd cM_tape vM_taped.toNatClampNeg (vp_nar .byte ((x1 >>> (((8 : Int32) * y3) &&& 31)).toInt8.toInt32))) cM_found) H := hP
            have hD : va_D A (w_X8_feed cyI cyJ cyZ cyB cyO aM aM_tape aM_found aM_d aM_e aM_f aM_kept aM_came aM_got aM_held aM_off aM_comesUp aM_comesDown aM_path aM_gets aM_gotNow aM_bitsOf aM_sizeOf aM_number aM_passing vM_isKept (vM_taped + (1 : Int32)) vM_leaked vM_keptAll vM_offAll vM_up vM_down vM_sharesUp vM_sharesDown vM_onUp vM_onDown vM_great vM_triedOff vM_triedLeaked vM_triedKept vM_fitting vM_firstSet vM_inAll vM_inAny vM_at vM_sort vM_from vM_value vM_fault (upd cM_tape vM_taped.toNatClampNeg (vp_nar .byte ((x1 >>> (((8 : Int32) * y3) &&& 31)).toInt8.toInt32))) cM_found) := hD
            refine lv_iinc (v := y3 + (-1)) (lv' := [(3, .int (y3 + (-1))), (0, .ref aM), (1, .int x1)]) hx hb dX8_feed_69 hl (k := 0) rfl rfl (by decide) rfl (fun ls hl => ?_)
            refine lv_goto (tgt := 39) hx hb dX8_feed_72 (by decide) ?_
            exact ih39 (y3 + (-1)) (vM_taped + (1 : Int32)) (upd cM_tape vM_taped.toNatClampNeg (vp_nar .byte ((x1 >>> (((8 : Int32) * y3) &&& 31)).toInt8.toInt32))) cM_found _ _ _ hP hD hS (lv_sub hl [0, 1, 2] rfl) h
      exact lp39 FU z4 vM_taped cM_tape cM_found _ _ _ hP hD hS (lv_sub hl [0, 1, 2] rfl) h
    · have h := br_neg c3 h
      refine lv_aload_n hx hb dX8_feed_29 rfl (lv_at hl 0 rfl) ?_
      refine lv_iconst (v := 1) hx hb dX8_feed_30 (by decide) ?_
      obtain ⟨u7, hu7, h⟩ := bd_some h
      refine cl_Vi (rest := []) F hK hP hD hS hA hl (t_X8_finds l D cyI cyJ cyZ cyB cyO aM aM_found aM_d aM_e aM_f aM_kept aM_tape aM_came aM_got aM_held aM_off aM_comesUp aM_comesDown aM_path aM_gets aM_gotNow aM_bitsOf aM_sizeOf aM_number aM_passing vM_isKept vM_taped vM_leaked vM_keptAll vM_offAll vM_up vM_down vM_sharesUp vM_sharesDown vM_onUp vM_onDown vM_great vM_triedOff vM_triedLeaked vM_triedKept vM_fitting vM_firstSet vM_inAll vM_inAny vM_at vM_sort vM_from vM_value vM_fault cM_found (1 : Int32) u7 hu7) (cwV 1 hts gX8_feed_X8_finds rfl rfl rfl (by decide +kernel) ⟨Nat.le_of_ble_eq_true rfl, Nat.le_of_ble_eq_true rfl⟩) 0 [0, 2] [1, 0, 2] [] (w_X8_feed cyI cyJ cyZ cyB cyO aM aM_tape aM_found aM_d aM_e aM_f aM_kept aM_came aM_got aM_held aM_off aM_comesUp aM_comesDown aM_path aM_gets aM_gotNow aM_bitsOf aM_sizeOf aM_number aM_passing vM_isKept vM_taped vM_leaked vM_keptAll vM_offAll vM_up vM_down vM_sharesUp vM_sharesDown vM_onUp vM_onDown vM_great vM_triedOff vM_triedLeaked vM_triedKept vM_fitting vM_firstSet vM_inAll vM_inAny vM_at vM_sort vM_from vM_value vM_fault cM_tape u7.2) rfl rfl rfl rfl rfl (by decide +kernel) rfl rfl (Nat.le_of_ble_eq_true rfl) ⟨Nat.zero_le _, Nat.zero_le _⟩ dX8_feed_31 (fun H locs hP hD hS => ?_)
      obtain rfl := Option.some.inj h
      exact hret _ _ _ _ _ hP hD hS dX8_feed_34 rfl rfl
  · have h := br_pos c2 h
    refine lv_aload_n hx hb dX8_feed_12 rfl (lv_at hl 0 rfl) ?_
    refine lv_iconst (v := 0) hx hb dX8_feed_13 (by decide) ?_
    obtain ⟨u8, hu8, h⟩ := bd_some h
    refine cl_Vi (rest := []) F hK hP hD hS hA hl (t_X8_finds l D cyI cyJ cyZ cyB cyO aM aM_found aM_d aM_e aM_f aM_kept aM_tape aM_came aM_got aM_held aM_off aM_comesUp aM_comesDown aM_path aM_gets aM_gotNow aM_bitsOf aM_sizeOf aM_number aM_passing vM_isKept vM_taped vM_leaked vM_keptAll vM_offAll vM_up vM_down vM_sharesUp vM_sharesDown vM_onUp vM_onDown vM_great vM_triedOff vM_triedLeaked vM_triedKept vM_fitting vM_firstSet vM_inAll vM_inAny vM_at vM_sort vM_from vM_value vM_fault cM_found (0 : Int32) u8 hu8) (cwV 1 hts gX8_feed_X8_finds rfl rfl rfl (by decide +kernel) ⟨Nat.le_of_ble_eq_true rfl, Nat.le_of_ble_eq_true rfl⟩) 0 [0, 2] [1, 0, 2] [] (w_X8_feed cyI cyJ cyZ cyB cyO aM aM_tape aM_found aM_d aM_e aM_f aM_kept aM_came aM_got aM_held aM_off aM_comesUp aM_comesDown aM_path aM_gets aM_gotNow aM_bitsOf aM_sizeOf aM_number aM_passing vM_isKept vM_taped vM_leaked vM_keptAll vM_offAll vM_up vM_down vM_sharesUp vM_sharesDown vM_onUp vM_onDown vM_great vM_triedOff vM_triedLeaked vM_triedKept vM_fitting vM_firstSet vM_inAll vM_inAny vM_at vM_sort vM_from vM_value vM_fault cM_tape u8.2) rfl rfl rfl rfl rfl (by decide +kernel) rfl rfl (Nat.le_of_ble_eq_true rfl) ⟨Nat.zero_le _, Nat.zero_le _⟩ dX8_feed_14 (fun H locs hP hD hS => ?_)
    obtain rfl := Option.some.inj h
    exact hret _ _ _ _ _ hP hD hS dX8_feed_17 rfl rfl
/-! ===== X8_wipe ===== -/
def w_X8_wipe (cyI cyJ cyZ cyB cyO : ClassId) (aM aM_d aM_e aM_f aM_kept aM_found aM_tape aM_came aM_got aM_held aM_off aM_comesUp aM_comesDown aM_path aM_gets aM_gotNow aM_bitsOf aM_sizeOf aM_number aM_passing : Nat) (vM_isKept : Int32) (vM_taped : Int32) (vM_leaked : Int32) (vM_keptAll : Int32) (vM_offAll : Int32) (vM_up : Int64) (vM_down : Int64) (vM_sharesUp : Int64) (vM_sharesDown : Int64) (vM_onUp : Int64) (vM_onDown : Int64) (vM_great : Int32) (vM_triedOff : Int32) (vM_triedLeaked : Int32) (vM_triedKept : Int32) (vM_fitting : Int32) (vM_firstSet : Int32) (vM_inAll : Int32) (vM_inAny : Int32) (vM_at : Int32) (vM_sort : Int32) (vM_from : Int32) (vM_value : Int64) (vM_fault : Int32) : va_W := [(aM, .inr (7, [.ref aM_d, .ref aM_e, .ref aM_f, .ref aM_kept, .int vM_isKept, .ref aM_found, .ref aM_tape, .int vM_taped, .ref aM_came, .ref aM_got, .ref aM_held, .ref aM_off, .int vM_leaked, .int vM_keptAll, .int vM_offAll, .ref aM_comesUp, .ref aM_comesDown, .long vM_up, .long vM_down, .long vM_sharesUp, .long vM_sharesDown, .long vM_onUp, .long vM_onDown, .int vM_great, .ref aM_path, .ref aM_gets, .int vM_triedOff, .int vM_triedLeaked, .int vM_triedKept, .ref aM_gotNow, .int vM_fitting, .int vM_firstSet, .int vM_inAll, .int vM_inAny, .int vM_at, .int vM_sort, .int vM_from, .long vM_value, .int vM_fault, .ref aM_bitsOf, .ref aM_sizeOf, .ref aM_number, .ref aM_passing]))]
set_option maxHeartbeats 4000000 in
set_option maxRecDepth 100000 in
theorem t_X8_wipe (l : Launch) (D : va_G) (cyI cyJ cyZ cyB cyO : ClassId) (aM aM_d aM_e aM_f aM_kept aM_found aM_tape aM_came aM_got aM_held aM_off aM_comesUp aM_comesDown aM_path aM_gets aM_gotNow aM_bitsOf aM_sizeOf aM_number aM_passing : Nat) (vM_isKept : Int32) (vM_taped : Int32) (vM_leaked : Int32) (vM_keptAll : Int32) (vM_offAll : Int32) (vM_up : Int64) (vM_down : Int64) (vM_sharesUp : Int64) (vM_sharesDown : Int64) (vM_onUp : Int64) (vM_onDown : Int64) (vM_great : Int32) (vM_triedOff : Int32) (vM_triedLeaked : Int32) (vM_triedKept : Int32) (vM_fitting : Int32) (vM_firstSet : Int32) (vM_inAll : Int32) (vM_inAny : Int32) (vM_at : Int32) (vM_sort : Int32) (vM_from : Int32) (vM_value : Int64) (vM_fault : Int32) (out : Int32 × Int32) (h : f_X8_wipe vM_taped = some out) : Mi l yX8_wipe wsX8_wipe ({ frames := 0, cells := 0, slots := 0, locals := 0 } : Room) D (tyA cyI cyJ cyZ cyB cyO) [.ref aM] (w_X8_wipe cyI cyJ cyZ cyB cyO aM aM_d aM_e aM_f aM_kept aM_found aM_tape aM_came aM_got aM_held aM_off aM_comesUp aM_comesDown aM_path aM_gets aM_gotNow aM_bitsOf aM_sizeOf aM_number aM_passing vM_isKept vM_taped vM_leaked vM_keptAll vM_offAll vM_up vM_down vM_sharesUp vM_sharesDown vM_onUp vM_onDown vM_great vM_triedOff vM_triedLeaked vM_triedKept vM_fitting vM_firstSet vM_inAll vM_inAny vM_at vM_sort vM_from vM_value vM_fault) (w_X8_wipe cyI cyJ cyZ cyB cyO aM aM_d aM_e aM_f aM_kept aM_found aM_tape aM_came aM_got aM_held aM_off aM_comesUp aM_comesDown aM_path aM_gets aM_gotNow aM_bitsOf aM_sizeOf aM_number aM_passing vM_isKept out.2 vM_leaked vM_keptAll vM_offAll vM_up vM_down vM_sharesUp vM_sharesDown vM_onUp vM_onDown vM_great vM_triedOff vM_triedLeaked vM_triedKept vM_fitting vM_firstSet vM_inAll vM_inAny vM_at vM_sort vM_from vM_value vM_fault) out.1 := by
  refine Mi.mk (cc := cX8_wipe) (maxL := 2) (rt := .int) (own := RX8) (by decide) rfl rfl (Nat.le_of_ble_eq_true rfl) ?_
  intro p e s m args below meth c A Q F hK hP hD hA hret ls hl
  obtain ⟨hx, hb, hml, hown, hts⟩ := id F
  have hS : va_S A s.heap s.heap [] := va_S.rf
  have hl : lv_has ls 2 [(0, .ref aM)] := hl
  have in_X8 : ∀ w ∈ wsX80, w ∈ wsX8_wipe := by decide +kernel
  have q1 := hts (Cond.fieldLink RX8 276 "ThirdFountainModel" "taped" "I") (List.mem_of_getElem? (i := 1) rfl)
  unfold f_X8_wipe at h
  refine lv_aload_n hx hb dX8_wipe_0 rfl (lv_at hl 0 rfl) ?_
  refine va_get (D := D) (ci := 7) (v := .int vM_taped) (C := RX8) (T := TX8) (N := 43) hx hb hts in_X8 hown hK hP 0 rfl rfl 7 (by decide) q1 (fun _ h9 => h9) rfl dX8_wipe_1 ?_
  refine lv_istore_n (lv' := [(1, .int vM_taped), (0, .ref aM)]) hx hb dX8_wipe_4 rfl hl (by decide) rfl (fun ls hl => ?_)
  refine lv_aload_n hx hb dX8_wipe_5 rfl (lv_at hl 1 rfl) ?_
  refine lv_iconst (v := 0) hx hb dX8_wipe_6 (by decide) ?_
  refine va_put (D := D) (ci := 7) (v := .int (0 : Int32)) (ty := .int) (C := RX8) (T := TX8) (N := 43) hx hb hts in_X8 tyX8 tyX8_ok nmX8 hown hK hP hD hS 0 rfl rfl 7 (by decide) q1 (fun _ h9 => h9) rfl (by decide +kernel) rfl rfl (Nat.le_of_ble_eq_true rfl) dX8_wipe_7 (fun H locs hP hD hS => ?_)
  have hP : va_P D vwCl (w_X8_wipe cyI cyJ cyZ cyB cyO aM aM_d aM_e aM_f aM_kept aM_found aM_tape aM_came aM_got aM_held aM_off aM_comesUp aM_comesDown aM_path aM_gets aM_gotNow aM_bitsOf aM_sizeOf aM_number aM_passing vM_isKept (0 : Int32) vM_leaked vM_keptAll vM_offAll vM_up vM_down vM_sharesUp vM_sharesDown vM_onUp vM_onDown vM_great vM_triedOff vM_triedLeaked vM_triedKept vM_fitting vM_firstSet vM_inAll vM_inAny vM_at vM_sort vM_from vM_value vM_fault) H := hP
  have hD : va_D A (w_X8_wipe cyI cyJ cyZ cyB cyO aM aM_d aM_e aM_f aM_kept aM_found aM_tape aM_came aM_got aM_held aM_off aM_comesUp aM_comesDown aM_path aM_gets aM_gotNow aM_bitsOf aM_sizeOf aM_number aM_passing vM_isKept (0 : Int32) vM_leaked vM_keptAll vM_offAll vM_up vM_down vM_sharesUp vM_sharesDown vM_onUp vM_onDown vM_great vM_triedOff vM_triedLeaked vM_triedKept vM_fitting vM_firstSet vM_inAll vM_inAny vM_at vM_sort vM_from vM_value vM_fault) := hD
  refine lv_iload_n hx hb dX8_wipe_10 rfl (lv_at hl 0 rfl) ?_
  obtain rfl := Option.some.inj h
  exact hret _ _ _ _ _ hP hD hS dX8_wipe_11 rfl rfl
/-! ===== X8_letter ===== -/
def w_X8_letter (cyI cyJ cyZ cyB cyO : ClassId) : va_W := []
set_option maxHeartbeats 4000000 in
set_option maxRecDepth 100000 in
theorem t_X8_letter (l : Launch) (D : va_G) (cyI cyJ cyZ cyB cyO : ClassId) (x0 : Int32) (out : Int32) (h : f_X8_letter x0 = some out) : Mi l yX8_letter wsX8_letter ({ frames := 0, cells := 0, slots := 0, locals := 0 } : Room) D (tyA cyI cyJ cyZ cyB cyO) [.int x0] (w_X8_letter cyI cyJ cyZ cyB cyO ) (w_X8_letter cyI cyJ cyZ cyB cyO ) out := by
  refine Mi.mk (cc := cX8_letter) (maxL := 1) (rt := .int) (own := RX8) (by decide) rfl rfl (Nat.le_of_ble_eq_true rfl) ?_
  intro p e s m args below meth c A Q F hK hP hD hA hret ls hl
  obtain ⟨hx, hb, hml, hown, hts⟩ := id F
  have hS : va_S A s.heap s.heap [] := va_S.rf
  have hl : lv_has ls 1 [(0, .int x0)] := hl
  unfold f_X8_letter at h
  refine lv_iload_n hx hb dX8_letter_0 rfl (lv_at hl 0 rfl) ?_
  refine lv_bipush (v := 97) hx hb dX8_letter_1 (by decide) ?_
  refine lv_icmp_lt (tgt := 21) hx hb dX8_letter_3 (by decide) (fun c1 => ?_) (fun c1 => ?_)
  · have h := br_pos c1 h
    refine lv_iconst (v := 0) hx hb dX8_letter_21 (by decide) ?_
    obtain rfl := Option.some.inj h
    exact hret _ _ _ _ _ hP hD hS dX8_letter_22 rfl rfl
  · have h := br_neg c1 h
    refine lv_iload_n hx hb dX8_letter_6 rfl (lv_at hl 0 rfl) ?_
    refine lv_bipush (v := 122) hx hb dX8_letter_7 (by decide) ?_
    refine lv_icmp_gt (tgt := 21) hx hb dX8_letter_9 (by decide) (fun c2 => ?_) (fun c2 => ?_)
    · have h := br_pos c2 h
      refine lv_iconst (v := 0) hx hb dX8_letter_21 (by decide) ?_
      obtain rfl := Option.some.inj h
      exact hret _ _ _ _ _ hP hD hS dX8_letter_22 rfl rfl
    · have h := br_neg c2 h
      refine lv_iload_n hx hb dX8_letter_12 rfl (lv_at hl 0 rfl) ?_
      refine lv_bipush (v := 97) hx hb dX8_letter_13 (by decide) ?_
      refine lv_isub hx hb dX8_letter_15 ?_
      refine lv_iconst (v := 1) hx hb dX8_letter_16 (by decide) ?_
      refine lv_iadd hx hb dX8_letter_17 ?_
      refine lv_goto (tgt := 22) hx hb dX8_letter_18 (by decide) ?_
      obtain rfl := Option.some.inj h
      exact hret _ _ _ _ _ hP hD hS dX8_letter_22 rfl rfl
/-! ===== X8_isDigit ===== -/
def w_X8_isDigit (cyI cyJ cyZ cyB cyO : ClassId) : va_W := []
set_option maxHeartbeats 4000000 in
set_option maxRecDepth 100000 in
theorem t_X8_isDigit (l : Launch) (D : va_G) (cyI cyJ cyZ cyB cyO : ClassId) (x0 : Int32) (out : Int32) (h : f_X8_isDigit x0 = some out) : Mi l yX8_isDigit wsX8_isDigit ({ frames := 0, cells := 0, slots := 0, locals := 0 } : Room) D (tyA cyI cyJ cyZ cyB cyO) [.int x0] (w_X8_isDigit cyI cyJ cyZ cyB cyO ) (w_X8_isDigit cyI cyJ cyZ cyB cyO ) out := by
  refine Mi.mk (cc := cX8_isDigit) (maxL := 1) (rt := .boolean) (own := RX8) (by decide) rfl rfl (Nat.le_of_ble_eq_true rfl) ?_
  intro p e s m args below meth c A Q F hK hP hD hA hret ls hl
  obtain ⟨hx, hb, hml, hown, hts⟩ := id F
  have hS : va_S A s.heap s.heap [] := va_S.rf
  have hl : lv_has ls 1 [(0, .int x0)] := hl
  unfold f_X8_isDigit at h
  refine lv_iload_n hx hb dX8_isDigit_0 rfl (lv_at hl 0 rfl) ?_
  refine lv_bipush (v := 48) hx hb dX8_isDigit_1 (by decide) ?_
  refine lv_icmp_lt (tgt := 16) hx hb dX8_isDigit_3 (by decide) (fun c1 => ?_) (fun c1 => ?_)
  · have h := br_pos c1 h
    refine lv_iconst (v := 0) hx hb dX8_isDigit_16 (by decide) ?_
    obtain rfl := Option.some.inj h
    exact hret _ _ _ _ _ hP hD hS dX8_isDigit_17 (nz_of (Or.inl rfl)) rfl
  · have h := br_neg c1 h
    refine lv_iload_n hx hb dX8_isDigit_6 rfl (lv_at hl 0 rfl) ?_
    refine lv_bipush (v := 57) hx hb dX8_isDigit_7 (by decide) ?_
    refine lv_icmp_gt (tgt := 16) hx hb dX8_isDigit_9 (by decide) (fun c2 => ?_) (fun c2 => ?_)
    · have h := br_pos c2 h
      refine lv_iconst (v := 0) hx hb dX8_isDigit_16 (by decide) ?_
      obtain rfl := Option.some.inj h
      exact hret _ _ _ _ _ hP hD hS dX8_isDigit_17 (nz_of (Or.inl rfl)) rfl
    · have h := br_neg c2 h
      refine lv_iconst (v := 1) hx hb dX8_isDigit_12 (by decide) ?_
      refine lv_goto (tgt := 17) hx hb dX8_isDigit_13 (by decide) ?_
      obtain rfl := Option.some.inj h
      exact hret _ _ _ _ _ hP hD hS dX8_isDigit_17 (nz_of (Or.inr rfl)) rfl
/-! ===== X8_byteAt ===== -/
def w_X8_byteAt (cyI cyJ cyZ cyB cyO : ClassId) (aM aM_tape aM_d aM_e aM_f aM_kept aM_found aM_came aM_got aM_held aM_off aM_comesUp aM_comesDown aM_path aM_gets aM_gotNow aM_bitsOf aM_sizeOf aM_number aM_passing : Nat) (vM_isKept : Int32) (vM_taped : Int32) (vM_leaked : Int32) (vM_keptAll : Int32) (vM_offAll : Int32) (vM_up : Int64) (vM_down : Int64) (vM_sharesUp : Int64) (vM_sharesDown : Int64) (vM_onUp : Int64) (vM_onDown : Int64) (vM_great : Int32) (vM_triedOff : Int32) (vM_triedLeaked : Int32) (vM_triedKept : Int32) (vM_fitting : Int32) (vM_firstSet : Int32) (vM_inAll : Int32) (vM_inAny : Int32) (vM_at : Int32) (vM_sort : Int32) (vM_from : Int32) (vM_value : Int64) (vM_fault : Int32) (cM_tape : Nat → Int32) : va_W := [(aM, .inr (7, [.ref aM_d, .ref aM_e, .ref aM_f, .ref aM_kept, .int vM_isKept, .ref aM_found, .ref aM_tape, .int vM_taped, .ref aM_came, .ref aM_got, .ref aM_held, .ref aM_off, .int vM_leaked, .int vM_keptAll, .int vM_offAll, .ref aM_comesUp, .ref aM_comesDown, .long vM_up, .long vM_down, .long vM_sharesUp, .long vM_sharesDown, .long vM_onUp, .long vM_onDown, .int vM_great, .ref aM_path, .ref aM_gets, .int vM_triedOff, .int vM_triedLeaked, .int vM_triedKept, .ref aM_gotNow, .int vM_fitting, .int vM_firstSet, .int vM_inAll, .int vM_inAny, .int vM_at, .int vM_sort, .int vM_from, .long vM_value, .int vM_fault, .ref aM_bitsOf, .ref aM_sizeOf, .ref aM_number, .ref aM_passing])), (aM_tape, .inl (cyB, 120, .inl cM_tape))]
set_option maxHeartbeats 4000000 in
set_option maxRecDepth 100000 in
theorem t_X8_byteAt (l : Launch) (D : va_G) (cyI cyJ cyZ cyB cyO : ClassId) (aM aM_tape aM_d aM_e aM_f aM_kept aM_found aM_came aM_got aM_held aM_off aM_comesUp aM_comesDown aM_path aM_gets aM_gotNow aM_bitsOf aM_sizeOf aM_number aM_passing : Nat) (vM_isKept : Int32) (vM_taped : Int32) (vM_leaked : Int32) (vM_keptAll : Int32) (vM_offAll : Int32) (vM_up : Int64) (vM_down : Int64) (vM_sharesUp : Int64) (vM_sharesDown : Int64) (vM_onUp : Int64) (vM_onDown : Int64) (vM_great : Int32) (vM_triedOff : Int32) (vM_triedLeaked : Int32) (vM_triedKept : Int32) (vM_fitting : Int32) (vM_firstSet : Int32) (vM_inAll : Int32) (vM_inAny : Int32) (vM_at : Int32) (vM_sort : Int32) (vM_from : Int32) (vM_value : Int64) (vM_fault : Int32) (cM_tape : Nat → Int32) (x1 : Int32) (out : Int32) (h : f_X8_byteAt x1 vM_taped cM_tape = some out) : Mi l yX8_byteAt wsX8_byteAt ({ frames := 0, cells := 0, slots := 0, locals := 0 } : Room) D (tyA cyI cyJ cyZ cyB cyO) [.ref aM, .int x1] (w_X8_byteAt cyI cyJ cyZ cyB cyO aM aM_tape aM_d aM_e aM_f aM_kept aM_found aM_came aM_got aM_held aM_off aM_comesUp aM_comesDown aM_path aM_gets aM_gotNow aM_bitsOf aM_sizeOf aM_number aM_passing vM_isKept vM_taped vM_leaked vM_keptAll vM_offAll vM_up vM_down vM_sharesUp vM_sharesDown vM_onUp vM_onDown vM_great vM_triedOff vM_triedLeaked vM_triedKept vM_fitting vM_firstSet vM_inAll vM_inAny vM_at vM_sort vM_from vM_value vM_fault cM_tape) (w_X8_byteAt cyI cyJ cyZ cyB cyO aM aM_tape aM_d aM_e aM_f aM_kept aM_found aM_came aM_got aM_held aM_off aM_comesUp aM_comesDown aM_path aM_gets aM_gotNow aM_bitsOf aM_sizeOf aM_number aM_passing vM_isKept vM_taped vM_leaked vM_keptAll vM_offAll vM_up vM_down vM_sharesUp vM_sharesDown vM_onUp vM_onDown vM_great vM_triedOff vM_triedLeaked vM_triedKept vM_fitting vM_firstSet vM_inAll vM_inAny vM_at vM_sort vM_from vM_value vM_fault cM_tape) out := by
  refine Mi.mk (cc := cX8_byteAt) (maxL := 2) (rt := .int) (own := RX8) (by decide) rfl rfl (Nat.le_of_ble_eq_true rfl) ?_
  intro p e s m args below meth c A Q F hK hP hD hA hret ls hl
  obtain ⟨hx, hb, hml, hown, hts⟩ := id F
  have hS : va_S A s.heap s.heap [] := va_S.rf
  have hl : lv_has ls 2 [(0, .ref aM), (1, .int x1)] := hl
  have in_X8 : ∀ w ∈ wsX80, w ∈ wsX8_byteAt := by decide +kernel
  have q1 := hts (Cond.fieldLink RX8 276 "ThirdFountainModel" "taped" "I") (List.mem_of_getElem? (i := 1) rfl)
  have q2 := hts (Cond.fieldLink RX8 25 "ThirdFountainModel" "tape" "[B") (List.mem_of_getElem? (i := 2) rfl)
  unfold f_X8_byteAt at h
  refine lv_iload_n hx hb dX8_byteAt_0 rfl (lv_at hl 1 rfl) ?_
  refine lv_aload_n hx hb dX8_byteAt_1 rfl (lv_at hl 0 rfl) ?_
  refine va_get (D := D) (ci := 7) (v := .int vM_taped) (C := RX8) (T := TX8) (N := 43) hx hb hts in_X8 hown hK hP 0 rfl rfl 7 (by decide) q1 (fun _ h9 => h9) rfl dX8_byteAt_2 ?_
  refine lv_icmp_ge (tgt := 17) hx hb dX8_byteAt_5 (by decide) (fun c1 => ?_) (fun c1 => ?_)
  · have h := br_pos c1 h
    refine lv_iconst (v := -1) hx hb dX8_byteAt_17 (by decide) ?_
    obtain rfl := Option.some.inj h
    exact hret _ _ _ _ _ hP hD hS dX8_byteAt_18 rfl rfl
  · have h := br_neg c1 h
    refine lv_aload_n hx hb dX8_byteAt_8 rfl (lv_at hl 0 rfl) ?_
    refine va_get (D := D) (ci := 7) (v := .ref aM_tape) (C := RX8) (T := TX8) (N := 43) hx hb hts in_X8 hown hK hP 0 rfl rfl 6 (by decide) q2 (fun _ h9 => h9) rfl dX8_byteAt_9 ?_
    refine lv_iload_n hx hb dX8_byteAt_12 rfl (lv_at hl 1 rfl) ?_
    obtain ⟨g2, h⟩ := gd_some h
    refine va_bald hx hb hK hP 1 3 rfl rfl g2 dX8_byteAt_13 ?_
    refine lv_goto (tgt := 18) hx hb dX8_byteAt_14 (by decide) ?_
    obtain rfl := Option.some.inj h
    exact hret _ _ _ _ _ hP hD hS dX8_byteAt_18 rfl rfl
/-! ===== X8_next ===== -/
def w_X8_next (cyI cyJ cyZ cyB cyO : ClassId) (aM aM_tape aM_d aM_e aM_f aM_kept aM_found aM_came aM_got aM_held aM_off aM_comesUp aM_comesDown aM_path aM_gets aM_gotNow aM_bitsOf aM_sizeOf aM_number aM_passing : Nat) (vM_isKept : Int32) (vM_taped : Int32) (vM_leaked : Int32) (vM_keptAll : Int32) (vM_offAll : Int32) (vM_up : Int64) (vM_down : Int64) (vM_sharesUp : Int64) (vM_sharesDown : Int64) (vM_onUp : Int64) (vM_onDown : Int64) (vM_great : Int32) (vM_triedOff : Int32) (vM_triedLeaked : Int32) (vM_triedKept : Int32) (vM_fitting : Int32) (vM_firstSet : Int32) (vM_inAll : Int32) (vM_inAny : Int32) (vM_at : Int32) (vM_sort : Int32) (vM_from : Int32) (vM_value : Int64) (vM_fault : Int32) (cM_tape : Nat → Int32) : va_W := [(aM, .inr (7, [.ref aM_d, .ref aM_e, .ref aM_f, .ref aM_kept, .int vM_isKept, .ref aM_found, .ref aM_tape, .int vM_taped, .ref aM_came, .ref aM_got, .ref aM_held, .ref aM_off, .int vM_leaked, .int vM_keptAll, .int vM_offAll, .ref aM_comesUp, .ref aM_comesDown, .long vM_up, .long vM_down, .long vM_sharesUp, .long vM_sharesDown, .long vM_onUp, .long vM_onDown, .int vM_great, .ref aM_path, .ref aM_gets, .int vM_triedOff, .int vM_triedLeaked, .int vM_triedKept, .ref aM_gotNow, .int vM_fitting, .int vM_firstSet, .int vM_inAll, .int vM_inAny, .int vM_at, .int vM_sort, .int vM_from, .long vM_value, .int vM_fault, .ref aM_bitsOf, .ref aM_sizeOf, .ref aM_number, .ref aM_passing])), (aM_tape, .inl (cyB, 120, .inl cM_tape))]
set_option maxHeartbeats 4000000 in
set_option maxRecDepth 100000 in
theorem t_X8_next (l : Launch) (D : va_G) (cyI cyJ cyZ cyB cyO : ClassId) (aM aM_tape aM_d aM_e aM_f aM_kept aM_found aM_came aM_got aM_held aM_off aM_comesUp aM_comesDown aM_path aM_gets aM_gotNow aM_bitsOf aM_sizeOf aM_number aM_passing : Nat) (vM_isKept : Int32) (vM_taped : Int32) (vM_leaked : Int32) (vM_keptAll : Int32) (vM_offAll : Int32) (vM_up : Int64) (vM_down : Int64) (vM_sharesUp : Int64) (vM_sharesDown : Int64) (vM_onUp : Int64) (vM_onDown : Int64) (vM_great : Int32) (vM_triedOff : Int32) (vM_triedLeaked : Int32) (vM_triedKept : Int32) (vM_fitting : Int32) (vM_firstSet : Int32) (vM_inAll : Int32) (vM_inAny : Int32) (vM_at : Int32) (vM_sort : Int32) (vM_from : Int32) (vM_value : Int64) (vM_fault : Int32) (cM_tape : Nat → Int32) (out : Int32 × Int32 × Int32 × Int64) (h : f_X8_next vM_taped vM_at vM_sort vM_from vM_value cM_tape = some out) : Mv l yX8_next wsX8_next ({ frames := 1, cells := 0, slots := 0, locals := 21 } : Room) D (tyA cyI cyJ cyZ cyB cyO) [.ref aM] (w_X8_next cyI cyJ cyZ cyB cyO aM aM_tape aM_d aM_e aM_f aM_kept aM_found aM_came aM_got aM_held aM_off aM_comesUp aM_comesDown aM_path aM_gets aM_gotNow aM_bitsOf aM_sizeOf aM_number aM_passing vM_isKept vM_taped vM_leaked vM_keptAll vM_offAll vM_up vM_down vM_sharesUp vM_sharesDown vM_onUp vM_onDown vM_great vM_triedOff vM_triedLeaked vM_triedKept vM_fitting vM_firstSet vM_inAll vM_inAny vM_at vM_sort vM_from vM_value vM_fault cM_tape) (w_X8_next cyI cyJ cyZ cyB cyO aM aM_tape aM_d aM_e aM_f aM_kept aM_found aM_came aM_got aM_held aM_off aM_comesUp aM_comesDown aM_path aM_gets aM_gotNow aM_bitsOf aM_sizeOf aM_number aM_passing vM_isKept vM_taped vM_leaked vM_keptAll vM_offAll vM_up vM_down vM_sharesUp vM_sharesDown vM_onUp vM_onDown vM_great vM_triedOff vM_triedLeaked vM_triedKept vM_fitting vM_firstSet vM_inAll vM_inAny out.1 out.2.1 out.2.2.1 out.2.2.2 vM_fault cM_tape) := by
  refine Mv.mk (cc := cX8_next) (maxL := 2) (own := RX8) (by decide) rfl rfl (Nat.le_of_ble_eq_true rfl) ?_
  intro p e s m args below meth c A Q F hK hP hD hA hret ls hl
  obtain ⟨hx, hb, hml, hown, hts⟩ := id F
  have hS : va_S A s.heap s.heap [] := va_S.rf
  have hl : lv_has ls 2 [(0, .ref aM)] := hl
  have in_X8 : ∀ w ∈ wsX80, w ∈ wsX8_next := by decide +kernel
  have q1 := hts (Cond.fieldLink RX8 279 "ThirdFountainModel" "at" "I") (List.mem_of_getElem? (i := 1) rfl)
  have q11 := hts (Cond.methodLink RX8 282 yX8_byteAt) (List.mem_of_getElem? (i := 11) rfl)
  have q2 := hts (Cond.fieldLink RX8 285 "ThirdFountainModel" "from" "I") (List.mem_of_getElem? (i := 2) rfl)
  have q3 := hts (Cond.fieldLink RX8 288 "ThirdFountainModel" "value" "J") (List.mem_of_getElem? (i := 3) rfl)
  have q4 := hts (Cond.fieldLink RX8 276 "ThirdFountainModel" "taped" "I") (List.mem_of_getElem? (i := 4) rfl)
  have q17 := hts (Cond.methodLink RX8 294 yX8_letter) (List.mem_of_getElem? (i := 17) rfl)
  have q20 := hts (Cond.methodLink RX8 301 yX8_isDigit) (List.mem_of_getElem? (i := 20) rfl)
  have q5 := hts (Cond.fieldLink RX8 291 "ThirdFountainModel" "sort" "I") (List.mem_of_getElem? (i := 5) rfl)
  have q8 := hts (Cond.constantLong RX8 127 (99999)) (List.mem_of_getElem? (i := 8) rfl)
  have q9 := hts (Cond.constantLong RX8 148 (10)) (List.mem_of_getElem? (i := 9) rfl)
  have q10 := hts (Cond.constantLong RX8 304 (48)) (List.mem_of_getElem? (i := 10) rfl)
  have q6 := hts (Cond.constantLong RX8 297 (100000000000000000)) (List.mem_of_getElem? (i := 6) rfl)
  have q7 := hts (Cond.constantLong RX8 299 (27)) (List.mem_of_getElem? (i := 7) rfl)
  unfold f_X8_next at h
  have lp0 : ∀ (k0 : Nat) (vM_at : Int32) (vM_sort : Int32) (vM_from : Int32) (vM_value : Int64) (H : Heap) (locs : List Loc) (ls : Array Slot), va_P D vwCl (w_X8_next cyI cyJ cyZ cyB cyO aM aM_tape aM_d aM_e aM_f aM_kept aM_found aM_came aM_got aM_held aM_off aM_comesUp aM_comesDown aM_path aM_gets aM_gotNow aM_bitsOf aM_sizeOf aM_number aM_passing vM_isKept vM_taped vM_leaked vM_keptAll vM_offAll vM_up vM_down vM_sharesUp vM_sharesDown vM_onUp vM_onDown vM_great vM_triedOff vM_triedLeaked vM_triedKept vM_fitting vM_firstSet vM_inAll vM_inAny vM_at vM_sort vM_from vM_value vM_fault cM_tape) H → va_D A (w_X8_next cyI cyJ cyZ cyB cyO aM aM_tape aM_d aM_e aM_f aM_kept aM_found aM_came aM_got aM_held aM_off aM_comesUp aM_comesDown aM_path aM_gets aM_gotNow aM_bitsOf aM_sizeOf aM_number aM_passing vM_isKept vM_taped vM_leaked vM_keptAll vM_offAll vM_up vM_down vM_sharesUp vM_sharesDown vM_onUp vM_onDown vM_great vM_triedOff vM_triedLeaked vM_triedKept vM_fitting vM_firstSet vM_inAll vM_inAny vM_at vM_sort vM_from vM_value vM_fault cM_tape) → va_S A s.heap H locs → lv_has ls 2 [(0, .ref aM)] → (f_X8_next_L0 vM_taped cM_tape k0) (vM_at, vM_sort, vM_from, vM_value) = some out → W p l e ({ frames := 1, cells := 0, slots := 0, locals := 21 } : Room) s m args below meth c H locs 0 0 Q (F0 m 0 ls []) := by
    intro k0
    induction k0 with
    | zero => intro vM_at vM_sort vM_from vM_value H locs ls hP hD hS hl h; cases h
    | succ k0 ih0 =>
      intro vM_at vM_sort vM_from vM_value H locs ls hP hD hS hl h
      have h : f_X8_next_L0_b vM_taped cM_tape (f_X8_next_L0 vM_taped cM_tape k0) vM_at vM_sort vM_from vM_value = some out := h
      unfold f_X8_next_L0_b at h
      refine lv_aload_n hx hb dX8_next_0 rfl (lv_at hl 0 rfl) ?_
      refine lv_aload_n hx hb dX8_next_1 rfl (lv_at hl 0 rfl) ?_
      refine va_get (D := D) (ci := 7) (v := .int vM_at) (C := RX8) (T := TX8) (N := 43) hx hb hts in_X8 hown hK hP 0 rfl rfl 34 (by decide) q1 (fun _ h9 => h9) rfl dX8_next_2 ?_
      obtain ⟨u1, hu1, h⟩ := bd_some h
      refine cl_Vi (rest := []) F hK hP hD hS hA hl (t_X8_byteAt l D cyI cyJ cyZ cyB cyO aM aM_tape aM_d aM_e aM_f aM_kept aM_found aM_came aM_got aM_held aM_off aM_comesUp aM_comesDown aM_path aM_gets aM_gotNow aM_bitsOf aM_sizeOf aM_number aM_passing vM_isKept vM_taped vM_leaked vM_keptAll vM_offAll vM_up vM_down vM_sharesUp vM_sharesDown vM_onUp vM_onDown vM_great vM_triedOff vM_triedLeaked vM_triedKept vM_fitting vM_firstSet vM_inAll vM_inAny vM_at vM_sort vM_from vM_value vM_fault cM_tape vM_at u1 hu1) (cwV 1 hts gX8_next_X8_byteAt rfl rfl rfl (by decide +kernel) ⟨Nat.le_of_ble_eq_true rfl, Nat.le_of_ble_eq_true rfl⟩) 0 [0, 1] [1, 2] [] (w_X8_next cyI cyJ cyZ cyB cyO aM aM_tape aM_d aM_e aM_f aM_kept aM_found aM_came aM_got aM_held aM_off aM_comesUp aM_comesDown aM_path aM_gets aM_gotNow aM_bitsOf aM_sizeOf aM_number aM_passing vM_isKept vM_taped vM_leaked vM_keptAll vM_offAll vM_up vM_down vM_sharesUp vM_sharesDown vM_onUp vM_onDown vM_great vM_triedOff vM_triedLeaked vM_triedKept vM_fitting vM_firstSet vM_inAll vM_inAny vM_at vM_sort vM_from vM_value vM_fault cM_tape) rfl rfl rfl rfl rfl (by decide +kernel) rfl rfl (Nat.le_of_ble_eq_true rfl) ⟨Nat.zero_le _, Nat.zero_le _⟩ dX8_next_5 (fun H locs hP hD hS => ?_)
      refine lv_bipush (v := 32) hx hb dX8_next_8 (by decide) ?_
      have j26 : ∀ (vM_at : Int32) (vM_sort : Int32) (vM_from : Int32) (vM_value : Int64) (H : Heap) (locs : List Loc) (ls : Array Slot), va_P D vwCl (w_X8_next cyI cyJ cyZ cyB cyO aM aM_tape aM_d aM_e aM_f aM_kept aM_found aM_came aM_got aM_held aM_off aM_comesUp aM_comesDown aM_path aM_gets aM_gotNow aM_bitsOf aM_sizeOf aM_number aM_passing vM_isKept vM_taped vM_leaked vM_keptAll vM_offAll vM_up vM_down vM_sharesUp vM_sharesDown vM_onUp vM_onDown vM_great vM_triedOff vM_triedLeaked vM_triedKept vM_fitting vM_firstSet vM_inAll vM_inAny vM_at vM_sort vM_from vM_value vM_fault cM_tape) H → va_D A (w_X8_next cyI cyJ cyZ cyB cyO aM aM_tape aM_d aM_e aM_f aM_kept aM_found aM_came aM_got aM_held aM_off aM_comesUp aM_comesDown aM_path aM_gets aM_gotNow aM_bitsOf aM_sizeOf aM_number aM_passing vM_isKept vM_taped vM_leaked vM_keptAll vM_offAll vM_up vM_down vM_sharesUp vM_sharesDown vM_onUp vM_onDown vM_great vM_triedOff vM_triedLeaked vM_triedKept vM_fitting vM_firstSet vM_inAll vM_inAny vM_at vM_sort vM_from vM_value vM_fault cM_tape) → va_S A s.heap H locs → lv_has ls 2 [(0, .ref aM)] → f_X8_next_J26 vM_taped cM_tape vM_at vM_sort vM_from vM_value = some out → W p l e ({ frames := 1, cells := 0, slots := 0, locals := 21 } : Room) s m args below meth c H locs 0 0 Q (F0 m 26 ls []) := by
        intro vM_at vM_sort vM_from vM_value H locs ls hP hD hS hl h
        unfold f_X8_next_J26 at h
        refine lv_aload_n hx hb dX8_next_26 rfl (lv_at hl 0 rfl) ?_
        refine lv_aload_n hx hb dX8_next_27 rfl (lv_at hl 0 rfl) ?_
        refine va_get (D := D) (ci := 7) (v := .int vM_at) (C := RX8) (T := TX8) (N := 43) hx hb hts in_X8 hown hK hP 0 rfl rfl 34 (by decide) q1 (fun _ h9 => h9) rfl dX8_next_28 ?_
        refine va_put (D := D) (ci := 7) (v := .int vM_at) (ty := .int) (C := RX8) (T := TX8) (N := 43) hx hb hts in_X8 tyX8 tyX8_ok nmX8 hown hK hP hD hS 0 rfl rfl 36 (by decide) q2 (fun _ h9 => h9) rfl (by decide +kernel) rfl rfl (Nat.le_of_ble_eq_true rfl) dX8_next_31 (fun H locs hP hD hS => ?_)
        have hP : va_P D vwCl (w_X8_next cyI cyJ cyZ cyB cyO aM aM_tape aM_d aM_e aM_f aM_kept aM_found aM_came aM_got aM_held aM_off aM_comesUp aM_comesDown aM_path aM_gets aM_gotNow aM_bitsOf aM_sizeOf aM_number aM_passing vM_isKept vM_taped vM_leaked vM_keptAll vM_offAll vM_up vM_down vM_sharesUp vM_sharesDown vM_onUp vM_onDown vM_great vM_triedOff vM_triedLeaked vM_triedKept vM_fitting vM_firstSet vM_inAll vM_inAny vM_at vM_sort vM_at vM_value vM_fault cM_tape) H := hP
        have hD : va_D A (w_X8_next cyI cyJ cyZ cyB cyO aM aM_tape aM_d aM_e aM_f aM_kept aM_found aM_came aM_got aM_held aM_off aM_comesUp aM_comesDown aM_path aM_gets aM_gotNow aM_bitsOf aM_sizeOf aM_number aM_passing vM_isKept vM_taped vM_leaked vM_keptAll vM_offAll vM_up vM_down vM_sharesUp vM_sharesDown vM_onUp vM_onDown vM_great vM_triedOff vM_triedLeaked vM_triedKept vM_fitting vM_firstSet vM_inAll vM_inAny vM_at vM_sort vM_at vM_value vM_fault cM_tape) := hD
        refine lv_aload_n hx hb dX8_next_34 rfl (lv_at hl 0 rfl) ?_
        refine lv_lconst (v := 0) hx hb dX8_next_35 (by decide) ?_
        refine va_put (D := D) (ci := 7) (v := .long (0 : Int64)) (ty := .long) (C := RX8) (T := TX8) (N := 43) hx hb hts in_X8 tyX8 tyX8_ok nmX8 hown hK hP hD hS 0 rfl rfl 37 (by decide) q3 (fun _ h9 => h9) rfl (by decide +kernel) rfl rfl (Nat.le_of_ble_eq_true rfl) dX8_next_36 (fun H locs hP hD hS => ?_)
        have hP : va_P D vwCl (w_X8_next cyI cyJ cyZ cyB cyO aM aM_tape aM_d aM_e aM_f aM_kept aM_found aM_came aM_got aM_held aM_off aM_comesUp aM_comesDown aM_path aM_gets aM_gotNow aM_bitsOf aM_sizeOf aM_number aM_passing vM_isKept vM_taped vM_leaked vM_keptAll vM_offAll vM_up vM_down vM_sharesUp vM_sharesDown vM_onUp vM_onDown vM_great vM_triedOff vM_triedLeaked vM_triedKept vM_fitting vM_firstSet vM_inAll vM_inAny vM_at vM_sort vM_at (0 : Int64) vM_fault cM_tape) H := hP
        have hD : va_D A (w_X8_next cyI cyJ cyZ cyB cyO aM aM_tape aM_d aM_e aM_f aM_kept aM_found aM_came aM_got aM_held aM_off aM_comesUp aM_comesDown aM_path aM_gets aM_gotNow aM_bitsOf aM_sizeOf aM_number aM_passing vM_isKept vM_taped vM_leaked vM_keptAll vM_offAll vM_up vM_down vM_sharesUp vM_sharesDown vM_onUp vM_onDown vM_great vM_triedOff vM_triedLeaked vM_triedKept vM_fitting vM_firstSet vM_inAll vM_inAny vM_at vM_sort vM_at (0 : Int64) vM_fault cM_tape) := hD
        refine lv_aload_n hx hb dX8_next_39 rfl (lv_at hl 0 rfl) ?_
        refine lv_aload_n hx hb dX8_next_40 rfl (lv_at hl 0 rfl) ?_
        refine va_get (D := D) (ci := 7) (v := .int vM_at) (C := RX8) (T := TX8) (N := 43) hx hb hts in_X8 hown hK hP 0 rfl rfl 34 (by decide) q1 (fun _ h9 => h9) rfl dX8_next_41 ?_
        obtain ⟨u2, hu2, h⟩ := bd_some h
        refine cl_Vi (rest := []) F hK hP hD hS hA hl (t_X8_byteAt l D cyI cyJ cyZ cyB cyO aM aM_tape aM_d aM_e aM_f aM_kept aM_found aM_came aM_got aM_held aM_off aM_comesUp aM_comesDown aM_path aM_gets aM_gotNow aM_bitsOf aM_sizeOf aM_number aM_passing vM_isKept vM_taped vM_leaked vM_keptAll vM_offAll vM_up vM_down vM_sharesUp vM_sharesDown vM_onUp vM_onDown vM_great vM_triedOff vM_triedLeaked vM_triedKept vM_fitting vM_firstSet vM_inAll vM_inAny vM_at vM_sort vM_at (0 : Int64) vM_fault cM_tape vM_at u2 hu2) (cwV 1 hts gX8_next_X8_byteAt rfl rfl rfl (by decide +kernel) ⟨Nat.le_of_ble_eq_true rfl, Nat.le_of_ble_eq_true rfl⟩) 0 [0, 1] [1, 2] [] (w_X8_next cyI cyJ cyZ cyB cyO aM aM_tape aM_d aM_e aM_f aM_kept aM_found aM_came aM_got aM_held aM_off aM_comesUp aM_comesDown aM_path aM_gets aM_gotNow aM_bitsOf aM_sizeOf aM_number aM_passing vM_isKept vM_taped vM_leaked vM_keptAll vM_offAll vM_up vM_down vM_sharesUp vM_sharesDown vM_onUp vM_onDown vM_great vM_triedOff vM_triedLeaked vM_triedKept vM_fitting vM_firstSet vM_inAll vM_inAny vM_at vM_sort vM_at (0 : Int64) vM_fault cM_tape) rfl rfl rfl rfl rfl (by decide +kernel) rfl rfl (Nat.le_of_ble_eq_true rfl) ⟨Nat.zero_le _, Nat.zero_le _⟩ dX8_next_44 (fun H locs hP hD hS => ?_)
        refine lv_istore_n (lv' := [(1, .int u2), (0, .ref aM)]) hx hb dX8_next_47 rfl hl (by decide) rfl (fun ls hl => ?_)
        refine lv_aload_n hx hb dX8_next_48 rfl (lv_at hl 1 rfl) ?_
        refine va_get (D := D) (ci := 7) (v := .int vM_at) (C := RX8) (T := TX8) (N := 43) hx hb hts in_X8 hown hK hP 0 rfl rfl 34 (by decide) q1 (fun _ h9 => h9) rfl dX8_next_49 ?_
        refine lv_aload_n hx hb dX8_next_52 rfl (lv_at hl 1 rfl) ?_
        refine va_get (D := D) (ci := 7) (v := .int vM_taped) (C := RX8) (T := TX8) (N := 43) hx hb hts in_X8 hown hK hP 0 rfl rfl 7 (by decide) q4 (fun _ h9 => h9) rfl dX8_next_53 ?_
        refine lv_icmp_ne (tgt := 67) hx hb dX8_next_56 (by decide) (fun c3 => ?_) (fun c3 => ?_)
        · have h := br_neg c3 h
          refine lv_iload_n hx hb dX8_next_67 rfl (lv_at hl 0 rfl) ?_
          refine lv_bipush (v := 59) hx hb dX8_next_68 (by decide) ?_
          refine lv_icmp_ne (tgt := 91) hx hb dX8_next_70 (by decide) (fun c4 => ?_) (fun c4 => ?_)
          · have h := br_neg c4 h
            refine lv_iload_n hx hb dX8_next_91 rfl (lv_at hl 0 rfl) ?_
            obtain ⟨u5, hu5, h⟩ := bd_some h
            refine cl_Si (rest := []) F hK hP hD hS hA hl (t_X8_letter l D cyI cyJ cyZ cyB cyO u2 u5 hu5) (va_cwS 1 hts gX8_next_X8_letter rfl rfl rfl (by decide +kernel) ⟨Nat.le_of_ble_eq_true rfl, Nat.le_of_ble_eq_true rfl⟩) [] [0, 0] [] (w_X8_next cyI cyJ cyZ cyB cyO aM aM_tape aM_d aM_e aM_f aM_kept aM_found aM_came aM_got aM_held aM_off aM_comesUp aM_comesDown aM_path aM_gets aM_gotNow aM_bitsOf aM_sizeOf aM_number aM_passing vM_isKept vM_taped vM_leaked vM_keptAll vM_offAll vM_up vM_down vM_sharesUp vM_sharesDown vM_onUp vM_onDown vM_great vM_triedOff vM_triedLeaked vM_triedKept vM_fitting vM_firstSet vM_inAll vM_inAny vM_at vM_sort vM_at (0 : Int64) vM_fault cM_tape) rfl rfl rfl (by decide +kernel) rfl rfl (Nat.le_of_ble_eq_true rfl) ⟨Nat.zero_le _, Nat.zero_le _⟩ dX8_next_92 (fun H locs hP hD hS => ?_)
            refine lv_if_le (tgt := 173) hx hb dX8_next_95 (by decide) (fun c6 => ?_) (fun c6 => ?_)
            · have h := br_pos c6 h
              refine lv_iload_n hx hb dX8_next_173 rfl (lv_at hl 0 rfl) ?_
              obtain ⟨u7, hu7, h⟩ := bd_some h
              refine cl_Si (rest := []) F hK hP hD hS hA hl (t_X8_isDigit l D cyI cyJ cyZ cyB cyO u2 u7 hu7) (va_cwS 1 hts gX8_next_X8_isDigit rfl rfl rfl (by decide +kernel) ⟨Nat.le_of_ble_eq_true rfl, Nat.le_of_ble_eq_true rfl⟩) [] [0, 0] [] (w_X8_next cyI cyJ cyZ cyB cyO aM aM_tape aM_d aM_e aM_f aM_kept aM_found aM_came aM_got aM_held aM_off aM_comesUp aM_comesDown aM_path aM_gets aM_gotNow aM_bitsOf aM_sizeOf aM_number aM_passing vM_isKept vM_taped vM_leaked vM_keptAll vM_offAll vM_up vM_down vM_sharesUp vM_sharesDown vM_onUp vM_onDown vM_great vM_triedOff vM_triedLeaked vM_triedKept vM_fitting vM_firstSet vM_inAll vM_inAny vM_at vM_sort vM_at (0 : Int64) vM_fault cM_tape) rfl rfl rfl (by decide +kernel) rfl rfl (Nat.le_of_ble_eq_true rfl) ⟨Nat.zero_le _, Nat.zero_le _⟩ dX8_next_174 (fun H locs hP hD hS => ?_)
              refine lv_if_eq (tgt := 256) hx hb dX8_next_177 (by decide) (fun c8 => ?_) (fun c8 => ?_)
              · have h := br_pos c8 h
                refine lv_aload_n hx hb dX8_next_256 rfl (lv_at hl 1 rfl) ?_
                refine lv_iconst (v := 4) hx hb dX8_next_257 (by decide) ?_
                refine va_put (D := D) (ci := 7) (v := .int (4 : Int32)) (ty := .int) (C := RX8) (T := TX8) (N := 43) hx hb hts in_X8 tyX8 tyX8_ok nmX8 hown hK hP hD hS 0 rfl rfl 35 (by decide) q5 (fun _ h9 => h9) rfl (by decide +kernel) rfl rfl (Nat.le_of_ble_eq_true rfl) dX8_next_258 (fun H locs hP hD hS => ?_)
                have hP : va_P D vwCl (w_X8_next cyI cyJ cyZ cyB cyO aM aM_tape aM_d aM_e aM_f aM_kept aM_found aM_came aM_got aM_held aM_off aM_comesUp aM_comesDown aM_path aM_gets aM_gotNow aM_bitsOf aM_sizeOf aM_number aM_passing vM_isKept vM_taped vM_leaked vM_keptAll vM_offAll vM_up vM_down vM_sharesUp vM_sharesDown vM_onUp vM_onDown vM_great vM_triedOff vM_triedLeaked vM_triedKept vM_fitting vM_firstSet vM_inAll vM_inAny vM_at (4 : Int32) vM_at (0 : Int64) vM_fault cM_tape) H := hP
                have hD : va_D A (w_X8_next cyI cyJ cyZ cyB cyO aM aM_tape aM_d aM_e aM_f aM_kept aM_found aM_came aM_got aM_held aM_off aM_comesUp aM_comesDown aM_path aM_gets aM_gotNow aM_bitsOf aM_sizeOf aM_number aM_passing vM_isKept vM_taped vM_leaked vM_keptAll vM_offAll vM_up vM_down vM_sharesUp vM_sharesDown vM_onUp vM_onDown vM_great vM_triedOff vM_triedLeaked vM_triedKept vM_fitting vM_firstSet vM_inAll vM_inAny vM_at (4 : Int32) vM_at (0 : Int64) vM_fault cM_tape) := hD
                obtain rfl := Option.some.inj h
                exact hret _ _ _ _ hP hD hS dX8_next_261 
              · have h := br_neg c8 h
                refine lv_aload_n hx hb dX8_next_180 rfl (lv_at hl 1 rfl) ?_
                refine lv_iconst (v := 2) hx hb dX8_next_181 (by decide) ?_
                refine va_put (D := D) (ci := 7) (v := .int (2 : Int32)) (ty := .int) (C := RX8) (T := TX8) (N := 43) hx hb hts in_X8 tyX8 tyX8_ok nmX8 hown hK hP hD hS 0 rfl rfl 35 (by decide) q5 (fun _ h9 => h9) rfl (by decide +kernel) rfl rfl (Nat.le_of_ble_eq_true rfl) dX8_next_182 (fun H locs hP hD hS => ?_)
                have hP : va_P D vwCl (w_X8_next cyI cyJ cyZ cyB cyO aM aM_tape aM_d aM_e aM_f aM_kept aM_found aM_came aM_got aM_held aM_off aM_comesUp aM_comesDown aM_path aM_gets aM_gotNow aM_bitsOf aM_sizeOf aM_number aM_passing vM_isKept vM_taped vM_leaked vM_keptAll vM_offAll vM_up vM_down vM_sharesUp vM_sharesDown vM_onUp vM_onDown vM_great vM_triedOff vM_triedLeaked vM_triedKept vM_fitting vM_firstSet vM_inAll vM_inAny vM_at (2 : Int32) vM_at (0 : Int64) vM_fault cM_tape) H := hP
                have hD : va_D A (w_X8_next cyI cyJ cyZ cyB cyO aM aM_tape aM_d aM_e aM_f aM_kept aM_found aM_came aM_got aM_held aM_off aM_comesUp aM_comesDown aM_path aM_gets aM_gotNow aM_bitsOf aM_sizeOf aM_number aM_passing vM_isKept vM_taped vM_leaked vM_keptAll vM_offAll vM_up vM_down vM_sharesUp vM_sharesDown vM_onUp vM_onDown vM_great vM_triedOff vM_triedLeaked vM_triedKept vM_fitting vM_firstSet vM_inAll vM_inAny vM_at (2 : Int32) vM_at (0 : Int64) vM_fault cM_tape) := hD
                have lp185 : ∀ (k185 : Nat) (vM_at : Int32) (vM_sort : Int32) (vM_from : Int32) (vM_value : Int64) (H : Heap) (locs : List Loc) (ls : Array Slot), va_P D vwCl (w_X8_next cyI cyJ cyZ cyB cyO aM aM_tape aM_d aM_e aM_f aM_kept aM_found aM_came aM_got aM_held aM_off aM_comesUp aM_comesDown aM_path aM_gets aM_gotNow aM_bitsOf aM_sizeOf aM_number aM_passing vM_isKept vM_taped vM_leaked vM_keptAll vM_offAll vM_up vM_down vM_sharesUp vM_sharesDown vM_onUp vM_onDown vM_great vM_triedOff vM_triedLeaked vM_triedKept vM_fitting vM_firstSet vM_inAll vM_inAny vM_at vM_sort vM_from vM_value vM_fault cM_tape) H → va_D A (w_X8_next cyI cyJ cyZ cyB cyO aM aM_tape aM_d aM_e aM_f aM_kept aM_found aM_came aM_got aM_held aM_off aM_comesUp aM_comesDown aM_path aM_gets aM_gotNow aM_bitsOf aM_sizeOf aM_number aM_passing vM_isKept vM_taped vM_leaked vM_keptAll vM_offAll vM_up vM_down vM_sharesUp vM_sharesDown vM_onUp vM_onDown vM_great vM_triedOff vM_triedLeaked vM_triedKept vM_fitting vM_firstSet vM_inAll vM_inAny vM_at vM_sort vM_from vM_value vM_fault cM_tape) → va_S A s.heap H locs → lv_has ls 2 [(0, .ref aM)] → (f_X8_next_L185 vM_taped cM_tape k185) (vM_at, vM_sort, vM_from, vM_value) = some out → W p l e ({ frames := 1, cells := 0, slots := 0, locals := 21 } : Room) s m args below meth c H locs 0 0 Q (F0 m 185 ls []) := by
                  intro k185
                  induction k185 with
                  | zero => intro vM_at vM_sort vM_from vM_value H locs ls hP hD hS hl h; cases h
                  | succ k185 ih185 =>
                    intro vM_at vM_sort vM_from vM_value H locs ls hP hD hS hl h
                    have h : f_X8_next_L185_b vM_taped cM_tape (f_X8_next_L185 vM_taped cM_tape k185) vM_at vM_sort vM_from vM_value = some out := h
                    unfold f_X8_next_L185_b at h
                    refine lv_aload_n hx hb dX8_next_185 rfl (lv_at hl 0 rfl) ?_
                    refine lv_aload_n hx hb dX8_next_186 rfl (lv_at hl 0 rfl) ?_
                    refine va_get (D := D) (ci := 7) (v := .int vM_at) (C := RX8) (T := TX8) (N := 43) hx hb hts in_X8 hown hK hP 0 rfl rfl 34 (by decide) q1 (fun _ h9 => h9) rfl dX8_next_187 ?_
                    obtain ⟨u9, hu9, h⟩ := bd_some h
                    refine cl_Vi (rest := []) F hK hP hD hS hA hl (t_X8_byteAt l D cyI cyJ cyZ cyB cyO aM aM_tape aM_d aM_e aM_f aM_kept aM_found aM_came aM_got aM_held aM_off aM_comesUp aM_comesDown aM_path aM_gets aM_gotNow aM_bitsOf aM_sizeOf aM_number aM_passing vM_isKept vM_taped vM_leaked vM_keptAll vM_offAll vM_up vM_down vM_sharesUp vM_sharesDown vM_onUp vM_onDown vM_great vM_triedOff vM_triedLeaked vM_triedKept vM_fitting vM_firstSet vM_inAll vM_inAny vM_at vM_sort vM_from vM_value vM_fault cM_tape vM_at u9 hu9) (cwV 1 hts gX8_next_X8_byteAt rfl rfl rfl (by decide +kernel) ⟨Nat.le_of_ble_eq_true rfl, Nat.le_of_ble_eq_true rfl⟩) 0 [0, 1] [1, 2] [] (w_X8_next cyI cyJ cyZ cyB cyO aM aM_tape aM_d aM_e aM_f aM_kept aM_found aM_came aM_got aM_held aM_off aM_comesUp aM_comesDown aM_path aM_gets aM_gotNow aM_bitsOf aM_sizeOf aM_number aM_passing vM_isKept vM_taped vM_leaked vM_keptAll vM_offAll vM_up vM_down vM_sharesUp vM_sharesDown vM_onUp vM_onDown vM_great vM_triedOff vM_triedLeaked vM_triedKept vM_fitting vM_firstSet vM_inAll vM_inAny vM_at vM_sort vM_from vM_value vM_fault cM_tape) rfl rfl rfl rfl rfl (by decide +kernel) rfl rfl (Nat.le_of_ble_eq_true rfl) ⟨Nat.zero_le _, Nat.zero_le _⟩ dX8_next_190 (fun H locs hP hD hS => ?_)
                    obtain ⟨u10, hu10, h⟩ := bd_some h
                    refine cl_Si (rest := []) F hK hP hD hS hA hl (t_X8_isDigit l D cyI cyJ cyZ cyB cyO u9 u10 hu10) (va_cwS 1 hts gX8_next_X8_isDigit rfl rfl rfl (by decide +kernel) ⟨Nat.le_of_ble_eq_true rfl, Nat.le_of_ble_eq_true rfl⟩) [] [0, 0] [] (w_X8_next cyI cyJ cyZ cyB cyO aM aM_tape aM_d aM_e aM_f aM_kept aM_found aM_came aM_got aM_held aM_off aM_comesUp aM_comesDown aM_path aM_gets aM_gotNow aM_bitsOf aM_sizeOf aM_number aM_passing vM_isKept vM_taped vM_leaked vM_keptAll vM_offAll vM_up vM_down vM_sharesUp vM_sharesDown vM_onUp vM_onDown vM_great vM_triedOff vM_triedLeaked vM_triedKept vM_fitting vM_firstSet vM_inAll vM_inAny vM_at vM_sort vM_from vM_value vM_fault cM_tape) rfl rfl rfl (by decide +kernel) rfl rfl (Nat.le_of_ble_eq_true rfl) ⟨Nat.zero_le _, Nat.zero_le _⟩ dX8_next_193 (fun H locs hP hD hS => ?_)
                    refine lv_if_eq (tgt := 261) hx hb dX8_next_196 (by decide) (fun c11 => ?_) (fun c11 => ?_)
                    · have h := br_pos c11 h
                      obtain rfl := Option.some.inj h
                      exact hret _ _ _ _ hP hD hS dX8_next_261 
                    · have h := br_neg c11 h
                      refine lv_aload_n hx hb dX8_next_199 rfl (lv_at hl 0 rfl) ?_
                      refine lv_aload_n hx hb dX8_next_200 rfl (lv_at hl 0 rfl) ?_
                      refine va_get (D := D) (ci := 7) (v := .long vM_value) (C := RX8) (T := TX8) (N := 43) hx hb hts in_X8 hown hK hP 0 rfl rfl 37 (by decide) q3 (fun _ h9 => h9) rfl dX8_next_201 ?_
                      refine lv_ldc2 (v := 99999) hx hb hown q8 dX8_next_204 ?_
                      refine W.lcmp hx hb dX8_next_207 ?_
                      have j240 : ∀ (t1 : Int64) (vM_at : Int32) (vM_sort : Int32) (vM_from : Int32) (vM_value : Int64) (H : Heap) (locs : List Loc) (ls : Array Slot), va_P D vwCl (w_X8_next cyI cyJ cyZ cyB cyO aM aM_tape aM_d aM_e aM_f aM_kept aM_found aM_came aM_got aM_held aM_off aM_comesUp aM_comesDown aM_path aM_gets aM_gotNow aM_bitsOf aM_sizeOf aM_number aM_passing vM_isKept vM_taped vM_leaked vM_keptAll vM_offAll vM_up vM_down vM_sharesUp vM_sharesDown vM_onUp vM_onDown vM_great vM_triedOff vM_triedLeaked vM_triedKept vM_fitting vM_firstSet vM_inAll vM_inAny vM_at vM_sort vM_from vM_value vM_fault cM_tape) H → va_D A (w_X8_next cyI cyJ cyZ cyB cyO aM aM_tape aM_d aM_e aM_f aM_kept aM_found aM_came aM_got aM_held aM_off aM_comesUp aM_comesDown aM_path aM_gets aM_gotNow aM_bitsOf aM_sizeOf aM_number aM_passing vM_isKept vM_taped vM_leaked vM_keptAll vM_offAll vM_up vM_down vM_sharesUp vM_sharesDown vM_onUp vM_onDown vM_great vM_triedOff vM_triedLeaked vM_triedKept vM_fitting vM_firstSet vM_inAll vM_inAny vM_at vM_sort vM_from vM_value vM_fault cM_tape) → va_S A s.heap H locs → lv_has ls 2 [(0, .ref aM)] → f_X8_next_J240 vM_taped cM_tape (f_X8_next_L185 vM_taped cM_tape k185) t1 vM_at vM_sort vM_from vM_value = some out → W p l e ({ frames := 1, cells := 0, slots := 0, locals := 21 } : Room) s m args below meth c H locs 0 0 Q (F0 m 240 ls [.long t1, .ref aM]) := by
                        intro t1 vM_at vM_sort vM_from vM_value H locs ls hP hD hS hl h
                        unfold f_X8_next_J240 at h
                        refine va_put (D := D) (ci := 7) (v := .long t1) (ty := .long) (C := RX8) (T := TX8) (N := 43) hx hb hts in_X8 tyX8 tyX8_ok nmX8 hown hK hP hD hS 0 rfl rfl 37 (by decide) q3 (fun _ h9 => h9) rfl (by decide +kernel) rfl rfl (Nat.le_of_ble_eq_true rfl) dX8_next_240 (fun H locs hP hD hS => ?_)
                        have hP : va_P D vwCl (w_X8_next cyI cyJ cyZ cyB cyO aM aM_tape aM_d aM_e aM_f aM_kept aM_found aM_came aM_got aM_held aM_off aM_comesUp aM_comesDown aM_path aM_gets aM_gotNow aM_bitsOf aM_sizeOf aM_number aM_passing vM_isKept vM_taped vM_leaked vM_keptAll vM_offAll vM_up vM_down vM_sharesUp vM_sharesDown vM_onUp vM_onDown vM_great vM_triedOff vM_triedLeaked vM_triedKept vM_fitting vM_firstSet vM_inAll vM_inAny vM_at vM_sort vM_from t1 vM_fault cM_tape) H := hP
                        have hD : va_D A (w_X8_next cyI cyJ cyZ cyB cyO aM aM_tape aM_d aM_e aM_f aM_kept aM_found aM_came aM_got aM_held aM_off aM_comesUp aM_comesDown aM_path aM_gets aM_gotNow aM_bitsOf aM_sizeOf aM_number aM_passing vM_isKept vM_taped vM_leaked vM_keptAll vM_offAll vM_up vM_down vM_sharesUp vM_sharesDown vM_onUp vM_onDown vM_great vM_triedOff vM_triedLeaked vM_triedKept vM_fitting vM_firstSet vM_inAll vM_inAny vM_at vM_sort vM_from t1 vM_fault cM_tape) := hD
                        refine lv_aload_n hx hb dX8_next_243 rfl (lv_at hl 0 rfl) ?_
                        refine lv_dup hx hb dX8_next_244 rfl ?_
                        refine va_get (D := D) (ci := 7) (v := .int vM_at) (C := RX8) (T := TX8) (N := 43) hx hb hts in_X8 hown hK hP 0 rfl rfl 34 (by decide) q1 (fun _ h9 => h9) rfl dX8_next_245 ?_
                        refine lv_iconst (v := 1) hx hb dX8_next_248 (by decide) ?_
                        refine lv_iadd hx hb dX8_next_249 ?_
                        refine va_put (D := D) (ci := 7) (v := .int (vM_at + (1 : Int32))) (ty := .int) (C := RX8) (T := TX8) (N := 43) hx hb hts in_X8 tyX8 tyX8_ok nmX8 hown hK hP hD hS 0 rfl rfl 34 (by decide) q1 (fun _ h9 => h9) rfl (by decide +kernel) rfl rfl (Nat.le_of_ble_eq_true rfl) dX8_next_250 (fun H locs hP hD hS => ?_)
                        have hP : va_P D vwCl (w_X8_next cyI cyJ cyZ cyB cyO aM aM_tape aM_d aM_e aM_f aM_kept aM_found aM_came aM_got aM_held aM_off aM_comesUp aM_comesDown aM_path aM_gets aM_gotNow aM_bitsOf aM_sizeOf aM_number aM_passing vM_isKept vM_taped vM_leaked vM_keptAll vM_offAll vM_up vM_down vM_sharesUp vM_sharesDown vM_onUp vM_onDown vM_great vM_triedOff vM_triedLeaked vM_triedKept vM_fitting vM_firstSet vM_inAll vM_inAny (vM_at + (1 : Int32)) vM_sort vM_from t1 vM_fault cM_tape) H := hP
                        have hD : va_D A (w_X8_next cyI cyJ cyZ cyB cyO aM aM_tape aM_d aM_e aM_f aM_kept aM_found aM_came aM_got aM_held aM_off aM_comesUp aM_comesDown aM_path aM_gets aM_gotNow aM_bitsOf aM_sizeOf aM_number aM_passing vM_isKept vM_taped vM_leaked vM_keptAll vM_offAll vM_up vM_down vM_sharesUp vM_sharesDown vM_onUp vM_onDown vM_great vM_triedOff vM_triedLeaked vM_triedKept vM_fitting vM_firstSet vM_inAll vM_inAny (vM_at + (1 : Int32)) vM_sort vM_from t1 vM_fault cM_tape) := hD
                        refine lv_goto (tgt := 185) hx hb dX8_next_253 (by decide) ?_
                        exact ih185 (vM_at + (1 : Int32)) vM_sort vM_from t1 _ _ _ hP hD hS (lv_sub hl [0] rfl) h
                      refine lv_if_le (tgt := 218) hx hb dX8_next_208 (by decide) (fun c12 => ?_) (fun c12 => ?_)
                      · have h := br_pos c12 h
                        refine lv_aload_n hx hb dX8_next_218 rfl (lv_at hl 0 rfl) ?_
                        refine va_get (D := D) (ci := 7) (v := .long vM_value) (C := RX8) (T := TX8) (N := 43) hx hb hts in_X8 hown hK hP 0 rfl rfl 37 (by decide) q3 (fun _ h9 => h9) rfl dX8_next_219 ?_
                        refine lv_ldc2 (v := 10) hx hb hown q9 dX8_next_222 ?_
                        refine lv_lmul hx hb dX8_next_225 ?_
                        refine lv_aload_n hx hb dX8_next_226 rfl (lv_at hl 0 rfl) ?_
                        refine lv_aload_n hx hb dX8_next_227 rfl (lv_at hl 0 rfl) ?_
                        refine va_get (D := D) (ci := 7) (v := .int vM_at) (C := RX8) (T := TX8) (N := 43) hx hb hts in_X8 hown hK hP 0 rfl rfl 34 (by decide) q1 (fun _ h9 => h9) rfl dX8_next_228 ?_
                        obtain ⟨u13, hu13, h⟩ := bd_some h
                        refine cl_Vi (rest := [.long (vM_value * (10 : Int64)), .ref aM]) F hK hP hD hS hA hl (t_X8_byteAt l D cyI cyJ cyZ cyB cyO aM aM_tape aM_d aM_e aM_f aM_kept aM_found aM_came aM_got aM_held aM_off aM_comesUp aM_comesDown aM_path aM_gets aM_gotNow aM_bitsOf aM_sizeOf aM_number aM_passing vM_isKept vM_taped vM_leaked vM_keptAll vM_offAll vM_up vM_down vM_sharesUp vM_sharesDown vM_onUp vM_onDown vM_great vM_triedOff vM_triedLeaked vM_triedKept vM_fitting vM_firstSet vM_inAll vM_inAny vM_at vM_sort vM_from vM_value vM_fault cM_tape vM_at u13 hu13) (cwV 1 hts gX8_next_X8_byteAt rfl rfl rfl (by decide +kernel) ⟨Nat.le_of_ble_eq_true rfl, Nat.le_of_ble_eq_true rfl⟩) 0 [0, 1] [1, 2] [] (w_X8_next cyI cyJ cyZ cyB cyO aM aM_tape aM_d aM_e aM_f aM_kept aM_found aM_came aM_got aM_held aM_off aM_comesUp aM_comesDown aM_path aM_gets aM_gotNow aM_bitsOf aM_sizeOf aM_number aM_passing vM_isKept vM_taped vM_leaked vM_keptAll vM_offAll vM_up vM_down vM_sharesUp vM_sharesDown vM_onUp vM_onDown vM_great vM_triedOff vM_triedLeaked vM_triedKept vM_fitting vM_firstSet vM_inAll vM_inAny vM_at vM_sort vM_from vM_value vM_fault cM_tape) rfl rfl rfl rfl rfl (by decide +kernel) rfl rfl (Nat.le_of_ble_eq_true rfl) ⟨Nat.zero_le _, Nat.zero_le _⟩ dX8_next_231 (fun H locs hP hD hS => ?_)
                        refine lv_i2l hx hb dX8_next_234 rfl ?_
                        refine lv_ladd hx hb dX8_next_235 ?_
                        refine lv_ldc2 (v := 48) hx hb hown q10 dX8_next_236 ?_
                        refine lv_lsub hx hb dX8_next_239 ?_
                        exact j240 (((vM_value * (10 : Int64)) + u13.toInt64) - (48 : Int64)) vM_at vM_sort vM_from vM_value _ _ _ hP hD hS (lv_sub hl [0] rfl) h
                      · have h := br_neg c12 h
                        refine lv_aload_n hx hb dX8_next_211 rfl (lv_at hl 0 rfl) ?_
                        refine va_get (D := D) (ci := 7) (v := .long vM_value) (C := RX8) (T := TX8) (N := 43) hx hb hts in_X8 hown hK hP 0 rfl rfl 37 (by decide) q3 (fun _ h9 => h9) rfl dX8_next_212 ?_
                        refine lv_goto (tgt := 240) hx hb dX8_next_215 (by decide) ?_
                        exact j240 vM_value vM_at vM_sort vM_from vM_value _ _ _ hP hD hS (lv_sub hl [0] rfl) h
                exact lp185 FU vM_at (2 : Int32) vM_at (0 : Int64) _ _ _ hP hD hS (lv_sub hl [1] rfl) h
            · have h := br_neg c6 h
              refine lv_aload_n hx hb dX8_next_98 rfl (lv_at hl 1 rfl) ?_
              refine lv_iconst (v := 1) hx hb dX8_next_99 (by decide) ?_
              refine va_put (D := D) (ci := 7) (v := .int (1 : Int32)) (ty := .int) (C := RX8) (T := TX8) (N := 43) hx hb hts in_X8 tyX8 tyX8_ok nmX8 hown hK hP hD hS 0 rfl rfl 35 (by decide) q5 (fun _ h9 => h9) rfl (by decide +kernel) rfl rfl (Nat.le_of_ble_eq_true rfl) dX8_next_100 (fun H locs hP hD hS => ?_)
              have hP : va_P D vwCl (w_X8_next cyI cyJ cyZ cyB cyO aM aM_tape aM_d aM_e aM_f aM_kept aM_found aM_came aM_got aM_held aM_off aM_comesUp aM_comesDown aM_path aM_gets aM_gotNow aM_bitsOf aM_sizeOf aM_number aM_passing vM_isKept vM_taped vM_leaked vM_keptAll vM_offAll vM_up vM_down vM_sharesUp vM_sharesDown vM_onUp vM_onDown vM_great vM_triedOff vM_triedLeaked vM_triedKept vM_fitting vM_firstSet vM_inAll vM_inAny vM_at (1 : Int32) vM_at (0 : Int64) vM_fault cM_tape) H := hP
              have hD : va_D A (w_X8_next cyI cyJ cyZ cyB cyO aM aM_tape aM_d aM_e aM_f aM_kept aM_found aM_came aM_got aM_held aM_off aM_comesUp aM_comesDown aM_path aM_gets aM_gotNow aM_bitsOf aM_sizeOf aM_number aM_passing vM_isKept vM_taped vM_leaked vM_keptAll vM_offAll vM_up vM_down vM_sharesUp vM_sharesDown vM_onUp vM_onDown vM_great vM_triedOff vM_triedLeaked vM_triedKept vM_fitting vM_firstSet vM_inAll vM_inAny vM_at (1 : Int32) vM_at (0 : Int64) vM_fault cM_tape) := hD
              have lp103 : ∀ (k103 : Nat) (vM_at : Int32) (vM_sort : Int32) (vM_from : Int32) (vM_value : Int64) (H : Heap) (locs : List Loc) (ls : Array Slot), va_P D vwCl (w_X8_next cyI cyJ cyZ cyB cyO aM aM_tape aM_d aM_e aM_f aM_kept aM_found aM_came aM_got aM_held aM_off aM_comesUp aM_comesDown aM_path aM_gets aM_gotNow aM_bitsOf aM_sizeOf aM_number aM_passing vM_isKept vM_taped vM_leaked vM_keptAll vM_offAll vM_up vM_down vM_sharesUp vM_sharesDown vM_onUp vM_onDown vM_great vM_triedOff vM_triedLeaked vM_triedKept vM_fitting vM_firstSet vM_inAll vM_inAny vM_at vM_sort vM_from vM_value vM_fault cM_tape) H → va_D A (w_X8_next cyI cyJ cyZ cyB cyO aM aM_tape aM_d aM_e aM_f aM_kept aM_found aM_came aM_got aM_held aM_off aM_comesUp aM_comesDown aM_path aM_gets aM_gotNow aM_bitsOf aM_sizeOf aM_number aM_passing vM_isKept vM_taped vM_leaked vM_keptAll vM_offAll vM_up vM_down vM_sharesUp vM_sharesDown vM_onUp vM_onDown vM_great vM_triedOff vM_triedLeaked vM_triedKept vM_fitting vM_firstSet vM_inAll vM_inAny vM_at vM_sort vM_from vM_value vM_fault cM_tape) → va_S A s.heap H locs → lv_has ls 2 [(0, .ref aM)] → (f_X8_next_L103 vM_taped cM_tape k103) (vM_at, vM_sort, vM_from, vM_value) = some out → W p l e ({ frames := 1, cells := 0, slots := 0, locals := 21 } : Room) s m args below meth c H locs 0 0 Q (F0 m 103 ls []) := by
                intro k103
                induction k103 with
                | zero => intro vM_at vM_sort vM_from vM_value H locs ls hP hD hS hl h; cases h
                | succ k103 ih103 =>
                  intro vM_at vM_sort vM_from vM_value H locs ls hP hD hS hl h
                  have h : f_X8_next_L103_b vM_taped cM_tape (f_X8_next_L103 vM_taped cM_tape k103) vM_at vM_sort vM_from vM_value = some out := h
                  unfold f_X8_next_L103_b at h
                  refine lv_aload_n hx hb dX8_next_103 rfl (lv_at hl 0 rfl) ?_
                  refine lv_aload_n hx hb dX8_next_104 rfl (lv_at hl 0 rfl) ?_
                  refine va_get (D := D) (ci := 7) (v := .int vM_at) (C := RX8) (T := TX8) (N := 43) hx hb hts in_X8 hown hK hP 0 rfl rfl 34 (by decide) q1 (fun _ h9 => h9) rfl dX8_next_105 ?_
                  obtain ⟨u14, hu14, h⟩ := bd_some h
                  refine cl_Vi (rest := []) F hK hP hD hS hA hl (t_X8_byteAt l D cyI cyJ cyZ cyB cyO aM aM_tape aM_d aM_e aM_f aM_kept aM_found aM_came aM_got aM_held aM_off aM_comesUp aM_comesDown aM_path aM_gets aM_gotNow aM_bitsOf aM_sizeOf aM_number aM_passing vM_isKept vM_taped vM_leaked vM_keptAll vM_offAll vM_up vM_down vM_sharesUp vM_sharesDown vM_onUp vM_onDown vM_great vM_triedOff vM_triedLeaked vM_triedKept vM_fitting vM_firstSet vM_inAll vM_inAny vM_at vM_sort vM_from vM_value vM_fault cM_tape vM_at u14 hu14) (cwV 1 hts gX8_next_X8_byteAt rfl rfl rfl (by decide +kernel) ⟨Nat.le_of_ble_eq_true rfl, Nat.le_of_ble_eq_true rfl⟩) 0 [0, 1] [1, 2] [] (w_X8_next cyI cyJ cyZ cyB cyO aM aM_tape aM_d aM_e aM_f aM_kept aM_found aM_came aM_got aM_held aM_off aM_comesUp aM_comesDown aM_path aM_gets aM_gotNow aM_bitsOf aM_sizeOf aM_number aM_passing vM_isKept vM_taped vM_leaked vM_keptAll vM_offAll vM_up vM_down vM_sharesUp vM_sharesDown vM_onUp vM_onDown vM_great vM_triedOff vM_triedLeaked vM_triedKept vM_fitting vM_firstSet vM_inAll vM_inAny vM_at vM_sort vM_from vM_value vM_fault cM_tape) rfl rfl rfl rfl rfl (by decide +kernel) rfl rfl (Nat.le_of_ble_eq_true rfl) ⟨Nat.zero_le _, Nat.zero_le _⟩ dX8_next_108 (fun H locs hP hD hS => ?_)
                  obtain ⟨u15, hu15, h⟩ := bd_some h
                  refine cl_Si (rest := []) F hK hP hD hS hA hl (t_X8_letter l D cyI cyJ cyZ cyB cyO u14 u15 hu15) (va_cwS 1 hts gX8_next_X8_letter rfl rfl rfl (by decide +kernel) ⟨Nat.le_of_ble_eq_true rfl, Nat.le_of_ble_eq_true rfl⟩) [] [0, 0] [] (w_X8_next cyI cyJ cyZ cyB cyO aM aM_tape aM_d aM_e aM_f aM_kept aM_found aM_came aM_got aM_held aM_off aM_comesUp aM_comesDown aM_path aM_gets aM_gotNow aM_bitsOf aM_sizeOf aM_number aM_passing vM_isKept vM_taped vM_leaked vM_keptAll vM_offAll vM_up vM_down vM_sharesUp vM_sharesDown vM_onUp vM_onDown vM_great vM_triedOff vM_triedLeaked vM_triedKept vM_fitting vM_firstSet vM_inAll vM_inAny vM_at vM_sort vM_from vM_value vM_fault cM_tape) rfl rfl rfl (by decide +kernel) rfl rfl (Nat.le_of_ble_eq_true rfl) ⟨Nat.zero_le _, Nat.zero_le _⟩ dX8_next_111 (fun H locs hP hD hS => ?_)
                  refine lv_if_le (tgt := 261) hx hb dX8_next_114 (by decide) (fun c16 => ?_) (fun c16 => ?_)
                  · have h := br_pos c16 h
                    obtain rfl := Option.some.inj h
                    exact hret _ _ _ _ hP hD hS dX8_next_261 
                  · have h := br_neg c16 h
                    refine lv_aload_n hx hb dX8_next_117 rfl (lv_at hl 0 rfl) ?_
                    refine lv_aload_n hx hb dX8_next_118 rfl (lv_at hl 0 rfl) ?_
                    refine va_get (D := D) (ci := 7) (v := .long vM_value) (C := RX8) (T := TX8) (N := 43) hx hb hts in_X8 hown hK hP 0 rfl rfl 37 (by decide) q3 (fun _ h9 => h9) rfl dX8_next_119 ?_
                    refine lv_ldc2 (v := 100000000000000000) hx hb hown q6 dX8_next_122 ?_
                    refine W.lcmp hx hb dX8_next_125 ?_
                    have j157 : ∀ (t1 : Int64) (vM_at : Int32) (vM_sort : Int32) (vM_from : Int32) (vM_value : Int64) (H : Heap) (locs : List Loc) (ls : Array Slot), va_P D vwCl (w_X8_next cyI cyJ cyZ cyB cyO aM aM_tape aM_d aM_e aM_f aM_kept aM_found aM_came aM_got aM_held aM_off aM_comesUp aM_comesDown aM_path aM_gets aM_gotNow aM_bitsOf aM_sizeOf aM_number aM_passing vM_isKept vM_taped vM_leaked vM_keptAll vM_offAll vM_up vM_down vM_sharesUp vM_sharesDown vM_onUp vM_onDown vM_great vM_triedOff vM_triedLeaked vM_triedKept vM_fitting vM_firstSet vM_inAll vM_inAny vM_at vM_sort vM_from vM_value vM_fault cM_tape) H → va_D A (w_X8_next cyI cyJ cyZ cyB cyO aM aM_tape aM_d aM_e aM_f aM_kept aM_found aM_came aM_got aM_held aM_off aM_comesUp aM_comesDown aM_path aM_gets aM_gotNow aM_bitsOf aM_sizeOf aM_number aM_passing vM_isKept vM_taped vM_leaked vM_keptAll vM_offAll vM_up vM_down vM_sharesUp vM_sharesDown vM_onUp vM_onDown vM_great vM_triedOff vM_triedLeaked vM_triedKept vM_fitting vM_firstSet vM_inAll vM_inAny vM_at vM_sort vM_from vM_value vM_fault cM_tape) → va_S A s.heap H locs → lv_has ls 2 [(0, .ref aM)] → f_X8_next_J157 vM_taped cM_tape (f_X8_next_L103 vM_taped cM_tape k103) t1 vM_at vM_sort vM_from vM_value = some out → W p l e ({ frames := 1, cells := 0, slots := 0, locals := 21 } : Room) s m args below meth c H locs 0 0 Q (F0 m 157 ls [.long t1, .ref aM]) := by
                      intro t1 vM_at vM_sort vM_from vM_value H locs ls hP hD hS hl h
                      unfold f_X8_next_J157 at h
                      refine va_put (D := D) (ci := 7) (v := .long t1) (ty := .long) (C := RX8) (T := TX8) (N := 43) hx hb hts in_X8 tyX8 tyX8_ok nmX8 hown hK hP hD hS 0 rfl rfl 37 (by decide) q3 (fun _ h9 => h9) rfl (by decide +kernel) rfl rfl (Nat.le_of_ble_eq_true rfl) dX8_next_157 (fun H locs hP hD hS => ?_)
                      have hP : va_P D vwCl (w_X8_next cyI cyJ cyZ cyB cyO aM aM_tape aM_d aM_e aM_f aM_kept aM_found aM_came aM_got aM_held aM_off aM_comesUp aM_comesDown aM_path aM_gets aM_gotNow aM_bitsOf aM_sizeOf aM_number aM_passing vM_isKept vM_taped vM_leaked vM_keptAll vM_offAll vM_up vM_down vM_sharesUp vM_sharesDown vM_onUp vM_onDown vM_great vM_triedOff vM_triedLeaked vM_triedKept vM_fitting vM_firstSet vM_inAll vM_inAny vM_at vM_sort vM_from t1 vM_fault cM_tape) H := hP
                      have hD : va_D A (w_X8_next cyI cyJ cyZ cyB cyO aM aM_tape aM_d aM_e aM_f aM_kept aM_found aM_came aM_got aM_held aM_off aM_comesUp aM_comesDown aM_path aM_gets aM_gotNow aM_bitsOf aM_sizeOf aM_number aM_passing vM_isKept vM_taped vM_leaked vM_keptAll vM_offAll vM_up vM_down vM_sharesUp vM_sharesDown vM_onUp vM_onDown vM_great vM_triedOff vM_triedLeaked vM_triedKept vM_fitting vM_firstSet vM_inAll vM_inAny vM_at vM_sort vM_from t1 vM_fault cM_tape) := hD
                      refine lv_aload_n hx hb dX8_next_160 rfl (lv_at hl 0 rfl) ?_
                      refine lv_dup hx hb dX8_next_161 rfl ?_
                      refine va_get (D := D) (ci := 7) (v := .int vM_at) (C := RX8) (T := TX8) (N := 43) hx hb hts in_X8 hown hK hP 0 rfl rfl 34 (by decide) q1 (fun _ h9 => h9) rfl dX8_next_162 ?_
                      refine lv_iconst (v := 1) hx hb dX8_next_165 (by decide) ?_
                      refine lv_iadd hx hb dX8_next_166 ?_
                      refine va_put (D := D) (ci := 7) (v := .int (vM_at + (1 : Int32))) (ty := .int) (C := RX8) (T := TX8) (N := 43) hx hb hts in_X8 tyX8 tyX8_ok nmX8 hown hK hP hD hS 0 rfl rfl 34 (by decide) q1 (fun _ h9 => h9) rfl (by decide +kernel) rfl rfl (Nat.le_of_ble_eq_true rfl) dX8_next_167 (fun H locs hP hD hS => ?_)
                      have hP : va_P D vwCl (w_X8_next cyI cyJ cyZ cyB cyO aM aM_tape aM_d aM_e aM_f aM_kept aM_found aM_came aM_got aM_held aM_off aM_comesUp aM_comesDown aM_path aM_gets aM_gotNow aM_bitsOf aM_sizeOf aM_number aM_passing vM_isKept vM_taped vM_leaked vM_keptAll vM_offAll vM_up vM_down vM_sharesUp vM_sharesDown vM_onUp vM_onDown vM_great vM_triedOff vM_triedLeaked vM_triedKept vM_fitting vM_firstSet vM_inAll vM_inAny (vM_at + (1 : Int32)) vM_sort vM_from t1 vM_fault cM_tape) H := hP
                      have hD : va_D A (w_X8_next cyI cyJ cyZ cyB cyO aM aM_tape aM_d aM_e aM_f aM_kept aM_found aM_came aM_got aM_held aM_off aM_comesUp aM_comesDown aM_path aM_gets aM_gotNow aM_bitsOf aM_sizeOf aM_number aM_passing vM_isKept vM_taped vM_leaked vM_keptAll vM_offAll vM_up vM_down vM_sharesUp vM_sharesDown vM_onUp vM_onDown vM_great vM_triedOff vM_triedLeaked vM_triedKept vM_fitting vM_firstSet vM_inAll vM_inAny (vM_at + (1 : Int32)) vM_sort vM_from t1 vM_fault cM_tape) := hD
                      refine lv_goto (tgt := 103) hx hb dX8_next_170 (by decide) ?_
                      exact ih103 (vM_at + (1 : Int32)) vM_sort vM_from t1 _ _ _ hP hD hS (lv_sub hl [0] rfl) h
                    refine lv_if_le (tgt := 136) hx hb dX8_next_126 (by decide) (fun c17 => ?_) (fun c17 => ?_)
                    · have h := br_pos c17 h
                      refine lv_aload_n hx hb dX8_next_136 rfl (lv_at hl 0 rfl) ?_
                      refine va_get (D := D) (ci := 7) (v := .long vM_value) (C := RX8) (T := TX8) (N := 43) hx hb hts in_X8 hown hK hP 0 rfl rfl 37 (by decide) q3 (fun _ h9 => h9) rfl dX8_next_137 ?_
                      refine lv_ldc2 (v := 27) hx hb hown q7 dX8_next_140 ?_
                      refine lv_lmul hx hb dX8_next_143 ?_
                      refine lv_aload_n hx hb dX8_next_144 rfl (lv_at hl 0 rfl) ?_
                      refine lv_aload_n hx hb dX8_next_145 rfl (lv_at hl 0 rfl) ?_
                      refine va_get (D := D) (ci := 7) (v := .int vM_at) (C := RX8) (T := TX8) (N := 43) hx hb hts in_X8 hown hK hP 0 rfl rfl 34 (by decide) q1 (fun _ h9 => h9) rfl dX8_next_146 ?_
                      obtain ⟨u18, hu18, h⟩ := bd_some h
                      refine cl_Vi (rest := [.long (vM_value * (27 : Int64)), .ref aM]) F hK hP hD hS hA hl (t_X8_byteAt l D cyI cyJ cyZ cyB cyO aM aM_tape aM_d aM_e aM_f aM_kept aM_found aM_came aM_got aM_held aM_off aM_comesUp aM_comesDown aM_path aM_gets aM_gotNow aM_bitsOf aM_sizeOf aM_number aM_passing vM_isKept vM_taped vM_leaked vM_keptAll vM_offAll vM_up vM_down vM_sharesUp vM_sharesDown vM_onUp vM_onDown vM_great vM_triedOff vM_triedLeaked vM_triedKept vM_fitting vM_firstSet vM_inAll vM_inAny vM_at vM_sort vM_from vM_value vM_fault cM_tape vM_at u18 hu18) (cwV 1 hts gX8_next_X8_byteAt rfl rfl rfl (by decide +kernel) ⟨Nat.le_of_ble_eq_true rfl, Nat.le_of_ble_eq_true rfl⟩) 0 [0, 1] [1, 2] [] (w_X8_next cyI cyJ cyZ cyB cyO aM aM_tape aM_d aM_e aM_f aM_kept aM_found aM_came aM_got aM_held aM_off aM_comesUp aM_comesDown aM_path aM_gets aM_gotNow aM_bitsOf aM_sizeOf aM_number aM_passing vM_isKept vM_taped vM_leaked vM_keptAll vM_offAll vM_up vM_down vM_sharesUp vM_sharesDown vM_onUp vM_onDown vM_great vM_triedOff vM_triedLeaked vM_triedKept vM_fitting vM_firstSet vM_inAll vM_inAny vM_at vM_sort vM_from vM_value vM_fault cM_tape) rfl rfl rfl rfl rfl (by decide +kernel) rfl rfl (Nat.le_of_ble_eq_true rfl) ⟨Nat.zero_le _, Nat.zero_le _⟩ dX8_next_149 (fun H locs hP hD hS => ?_)
                      obtain ⟨u19, hu19, h⟩ := bd_some h
                      refine cl_Si (rest := [.long (vM_value * (27 : Int64)), .ref aM]) F hK hP hD hS hA hl (t_X8_letter l D cyI cyJ cyZ cyB cyO u18 u19 hu19) (va_cwS 1 hts gX8_next_X8_letter rfl rfl rfl (by decide +kernel) ⟨Nat.le_of_ble_eq_true rfl, Nat.le_of_ble_eq_true rfl⟩) [] [0, 0] [] (w_X8_next cyI cyJ cyZ cyB cyO aM aM_tape aM_d aM_e aM_f aM_kept aM_found aM_came aM_got aM_held aM_off aM_comesUp aM_comesDown aM_path aM_gets aM_gotNow aM_bitsOf aM_sizeOf aM_number aM_passing vM_isKept vM_taped vM_leaked vM_keptAll vM_offAll vM_up vM_down vM_sharesUp vM_sharesDown vM_onUp vM_onDown vM_great vM_triedOff vM_triedLeaked vM_triedKept vM_fitting vM_firstSet vM_inAll vM_inAny vM_at vM_sort vM_from vM_value vM_fault cM_tape) rfl rfl rfl (by decide +kernel) rfl rfl (Nat.le_of_ble_eq_true rfl) ⟨Nat.zero_le _, Nat.zero_le _⟩ dX8_next_152 (fun H locs hP hD hS => ?_)
                      refine lv_i2l hx hb dX8_next_155 rfl ?_
                      refine lv_ladd hx hb dX8_next_156 ?_
                      exact j157 ((vM_value * (27 : Int64)) + u19.toInt64) vM_at vM_sort vM_from vM_value _ _ _ hP hD hS (lv_sub hl [0] rfl) h
                    · have h := br_neg c17 h
                      refine lv_aload_n hx hb dX8_next_129 rfl (lv_at hl 0 rfl) ?_
                      refine va_get (D := D) (ci := 7) (v := .long vM_value) (C := RX8) (T := TX8) (N := 43) hx hb hts in_X8 hown hK hP 0 rfl rfl 37 (by decide) q3 (fun _ h9 => h9) rfl dX8_next_130 ?_
                      refine lv_goto (tgt := 157) hx hb dX8_next_133 (by decide) ?_
                      exact j157 vM_value vM_at vM_sort vM_from vM_value _ _ _ hP hD hS (lv_sub hl [0] rfl) h
              exact lp103 FU vM_at (1 : Int32) vM_at (0 : Int64) _ _ _ hP hD hS (lv_sub hl [1] rfl) h
          · have h := br_pos c4 h
            refine lv_aload_n hx hb dX8_next_73 rfl (lv_at hl 1 rfl) ?_
            refine lv_iconst (v := 3) hx hb dX8_next_74 (by decide) ?_
            refine va_put (D := D) (ci := 7) (v := .int (3 : Int32)) (ty := .int) (C := RX8) (T := TX8) (N := 43) hx hb hts in_X8 tyX8 tyX8_ok nmX8 hown hK hP hD hS 0 rfl rfl 35 (by decide) q5 (fun _ h9 => h9) rfl (by decide +kernel) rfl rfl (Nat.le_of_ble_eq_true rfl) dX8_next_75 (fun H locs hP hD hS => ?_)
            have hP : va_P D vwCl (w_X8_next cyI cyJ cyZ cyB cyO aM aM_tape aM_d aM_e aM_f aM_kept aM_found aM_came aM_got aM_held aM_off aM_comesUp aM_comesDown aM_path aM_gets aM_gotNow aM_bitsOf aM_sizeOf aM_number aM_passing vM_isKept vM_taped vM_leaked vM_keptAll vM_offAll vM_up vM_down vM_sharesUp vM_sharesDown vM_onUp vM_onDown vM_great vM_triedOff vM_triedLeaked vM_triedKept vM_fitting vM_firstSet vM_inAll vM_inAny vM_at (3 : Int32) vM_at (0 : Int64) vM_fault cM_tape) H := hP
            have hD : va_D A (w_X8_next cyI cyJ cyZ cyB cyO aM aM_tape aM_d aM_e aM_f aM_kept aM_found aM_came aM_got aM_held aM_off aM_comesUp aM_comesDown aM_path aM_gets aM_gotNow aM_bitsOf aM_sizeOf aM_number aM_passing vM_isKept vM_taped vM_leaked vM_keptAll vM_offAll vM_up vM_down vM_sharesUp vM_sharesDown vM_onUp vM_onDown vM_great vM_triedOff vM_triedLeaked vM_triedKept vM_fitting vM_firstSet vM_inAll vM_inAny vM_at (3 : Int32) vM_at (0 : Int64) vM_fault cM_tape) := hD
            refine lv_aload_n hx hb dX8_next_78 rfl (lv_at hl 1 rfl) ?_
            refine lv_dup hx hb dX8_next_79 rfl ?_
            refine va_get (D := D) (ci := 7) (v := .int vM_at) (C := RX8) (T := TX8) (N := 43) hx hb hts in_X8 hown hK hP 0 rfl rfl 34 (by decide) q1 (fun _ h9 => h9) rfl dX8_next_80 ?_
            refine lv_iconst (v := 1) hx hb dX8_next_83 (by decide) ?_
            refine lv_iadd hx hb dX8_next_84 ?_
            refine va_put (D := D) (ci := 7) (v := .int (vM_at + (1 : Int32))) (ty := .int) (C := RX8) (T := TX8) (N := 43) hx hb hts in_X8 tyX8 tyX8_ok nmX8 hown hK hP hD hS 0 rfl rfl 34 (by decide) q1 (fun _ h9 => h9) rfl (by decide +kernel) rfl rfl (Nat.le_of_ble_eq_true rfl) dX8_next_85 (fun H locs hP hD hS => ?_)
            have hP : va_P D vwCl (w_X8_next cyI cyJ cyZ cyB cyO aM aM_tape aM_d aM_e aM_f aM_kept aM_found aM_came aM_got aM_held aM_off aM_comesUp aM_comesDown aM_path aM_gets aM_gotNow aM_bitsOf aM_sizeOf aM_number aM_passing vM_isKept vM_taped vM_leaked vM_keptAll vM_offAll vM_up vM_down vM_sharesUp vM_sharesDown vM_onUp vM_onDown vM_great vM_triedOff vM_triedLeaked vM_triedKept vM_fitting vM_firstSet vM_inAll vM_inAny (vM_at + (1 : Int32)) (3 : Int32) vM_at (0 : Int64) vM_fault cM_tape) H := hP
            have hD : va_D A (w_X8_next cyI cyJ cyZ cyB cyO aM aM_tape aM_d aM_e aM_f aM_kept aM_found aM_came aM_got aM_held aM_off aM_comesUp aM_comesDown aM_path aM_gets aM_gotNow aM_bitsOf aM_sizeOf aM_number aM_passing vM_isKept vM_taped vM_leaked vM_keptAll vM_offAll vM_up vM_down vM_sharesUp vM_sharesDown vM_onUp vM_onDown vM_great vM_triedOff vM_triedLeaked vM_triedKept vM_fitting vM_firstSet vM_inAll vM_inAny (vM_at + (1 : Int32)) (3 : Int32) vM_at (0 : Int64) vM_fault cM_tape) := hD
            refine lv_goto (tgt := 261) hx hb dX8_next_88 (by decide) ?_
            obtain rfl := Option.some.inj h
            exact hret _ _ _ _ hP hD hS dX8_next_261 
        · have h := br_pos c3 h
          refine lv_aload_n hx hb dX8_next_59 rfl (lv_at hl 1 rfl) ?_
          refine lv_iconst (v := 0) hx hb dX8_next_60 (by decide) ?_
          refine va_put (D := D) (ci := 7) (v := .int (0 : Int32)) (ty := .int) (C := RX8) (T := TX8) (N := 43) hx hb hts in_X8 tyX8 tyX8_ok nmX8 hown hK hP hD hS 0 rfl rfl 35 (by decide) q5 (fun _ h9 => h9) rfl (by decide +kernel) rfl rfl (Nat.le_of_ble_eq_true rfl) dX8_next_61 (fun H locs hP hD hS => ?_)
          have hP : va_P D vwCl (w_X8_next cyI cyJ cyZ cyB cyO aM aM_tape aM_d aM_e aM_f aM_kept aM_found aM_came aM_got aM_held aM_off aM_comesUp aM_comesDown aM_path aM_gets aM_gotNow aM_bitsOf aM_sizeOf aM_number aM_passing vM_isKept vM_taped vM_leaked vM_keptAll vM_offAll vM_up vM_down vM_sharesUp vM_sharesDown vM_onUp vM_onDown vM_great vM_triedOff vM_triedLeaked vM_triedKept vM_fitting vM_firstSet vM_inAll vM_inAny vM_at (0 : Int32) vM_at (0 : Int64) vM_fault cM_tape) H := hP
          have hD : va_D A (w_X8_next cyI cyJ cyZ cyB cyO aM aM_tape aM_d aM_e aM_f aM_kept aM_found aM_came aM_got aM_held aM_off aM_comesUp aM_comesDown aM_path aM_gets aM_gotNow aM_bitsOf aM_sizeOf aM_number aM_passing vM_isKept vM_taped vM_leaked vM_keptAll vM_offAll vM_up vM_down vM_sharesUp vM_sharesDown vM_onUp vM_onDown vM_great vM_triedOff vM_triedLeaked vM_triedKept vM_fitting vM_firstSet vM_inAll vM_inAny vM_at (0 : Int32) vM_at (0 : Int64) vM_fault cM_tape) := hD
          refine lv_goto (tgt := 261) hx hb dX8_next_64 (by decide) ?_
          obtain rfl := Option.some.inj h
          exact hret _ _ _ _ hP hD hS dX8_next_261 
      refine lv_icmp_ne (tgt := 26) hx hb dX8_next_10 (by decide) (fun c20 => ?_) (fun c20 => ?_)
      · have h := br_neg c20 h
        exact j26 vM_at vM_sort vM_from vM_value _ _ _ hP hD hS (lv_sub hl [0] rfl) h
      · have h := br_pos c20 h
        refine lv_aload_n hx hb dX8_next_13 rfl (lv_at hl 0 rfl) ?_
        refine lv_dup hx hb dX8_next_14 rfl ?_
        refine va_get (D := D) (ci := 7) (v := .int vM_at) (C := RX8) (T := TX8) (N := 43) hx hb hts in_X8 hown hK hP 0 rfl rfl 34 (by decide) q1 (fun _ h9 => h9) rfl dX8_next_15 ?_
        refine lv_iconst (v := 1) hx hb dX8_next_18 (by decide) ?_
        refine lv_iadd hx hb dX8_next_19 ?_
        refine va_put (D := D) (ci := 7) (v := .int (vM_at + (1 : Int32))) (ty := .int) (C := RX8) (T := TX8) (N := 43) hx hb hts in_X8 tyX8 tyX8_ok nmX8 hown hK hP hD hS 0 rfl rfl 34 (by decide) q1 (fun _ h9 => h9) rfl (by decide +kernel) rfl rfl (Nat.le_of_ble_eq_true rfl) dX8_next_20 (fun H locs hP hD hS => ?_)
        have hP : va_P D vwCl (w_X8_next cyI cyJ cyZ cyB cyO aM aM_tape aM_d aM_e aM_f aM_kept aM_found aM_came aM_got aM_held aM_off aM_comesUp aM_comesDown aM_path aM_gets aM_gotNow aM_bitsOf aM_sizeOf aM_number aM_passing vM_isKept vM_taped vM_leaked vM_keptAll vM_offAll vM_up vM_down vM_sharesUp vM_sharesDown vM_onUp vM_onDown vM_great vM_triedOff vM_triedLeaked vM_triedKept vM_fitting vM_firstSet vM_inAll vM_inAny (vM_at + (1 : Int32)) vM_sort vM_from vM_value vM_fault cM_tape) H := hP
        have hD : va_D A (w_X8_next cyI cyJ cyZ cyB cyO aM aM_tape aM_d aM_e aM_f aM_kept aM_found aM_came aM_got aM_held aM_off aM_comesUp aM_comesDown aM_path aM_gets aM_gotNow aM_bitsOf aM_sizeOf aM_number aM_passing vM_isKept vM_taped vM_leaked vM_keptAll vM_offAll vM_up vM_down vM_sharesUp vM_sharesDown vM_onUp vM_onDown vM_great vM_triedOff vM_triedLeaked vM_triedKept vM_fitting vM_firstSet vM_inAll vM_inAny (vM_at + (1 : Int32)) vM_sort vM_from vM_value vM_fault cM_tape) := hD
        refine lv_goto (tgt := 0) hx hb dX8_next_23 (by decide) ?_
        exact ih0 (vM_at + (1 : Int32)) vM_sort vM_from vM_value _ _ _ hP hD hS (lv_sub hl [0] rfl) h
  exact lp0 FU vM_at vM_sort vM_from vM_value _ _ _ hP hD hS (lv_sub hl [0] rfl) h
/-! ===== X8_wrongHere ===== -/
def w_X8_wrongHere (cyI cyJ cyZ cyB cyO : ClassId) (aM aM_d aM_e aM_f aM_kept aM_found aM_tape aM_came aM_got aM_held aM_off aM_comesUp aM_comesDown aM_path aM_gets aM_gotNow aM_bitsOf aM_sizeOf aM_number aM_passing : Nat) (vM_isKept : Int32) (vM_taped : Int32) (vM_leaked : Int32) (vM_keptAll : Int32) (vM_offAll : Int32) (vM_up : Int64) (vM_down : Int64) (vM_sharesUp : Int64) (vM_sharesDown : Int64) (vM_onUp : Int64) (vM_onDown : Int64) (vM_great : Int32) (vM_triedOff : Int32) (vM_triedLeaked : Int32) (vM_triedKept : Int32) (vM_fitting : Int32) (vM_firstSet : Int32) (vM_inAll : Int32) (vM_inAny : Int32) (vM_at : Int32) (vM_sort : Int32) (vM_from : Int32) (vM_value : Int64) (vM_fault : Int32) : va_W := [(aM, .inr (7, [.ref aM_d, .ref aM_e, .ref aM_f, .ref aM_kept, .int vM_isKept, .ref aM_found, .ref aM_tape, .int vM_taped, .ref aM_came, .ref aM_got, .ref aM_held, .ref aM_off, .int vM_leaked, .int vM_keptAll, .int vM_offAll, .ref aM_comesUp, .ref aM_comesDown, .long vM_up, .long vM_down, .long vM_sharesUp, .long vM_sharesDown, .long vM_onUp, .long vM_onDown, .int vM_great, .ref aM_path, .ref aM_gets, .int vM_triedOff, .int vM_triedLeaked, .int vM_triedKept, .ref aM_gotNow, .int vM_fitting, .int vM_firstSet, .int vM_inAll, .int vM_inAny, .int vM_at, .int vM_sort, .int vM_from, .long vM_value, .int vM_fault, .ref aM_bitsOf, .ref aM_sizeOf, .ref aM_number, .ref aM_passing]))]
set_option maxHeartbeats 4000000 in
set_option maxRecDepth 100000 in
theorem t_X8_wrongHere (l : Launch) (D : va_G) (cyI cyJ cyZ cyB cyO : ClassId) (aM aM_d aM_e aM_f aM_kept aM_found aM_tape aM_came aM_got aM_held aM_off aM_comesUp aM_comesDown aM_path aM_gets aM_gotNow aM_bitsOf aM_sizeOf aM_number aM_passing : Nat) (vM_isKept : Int32) (vM_taped : Int32) (vM_leaked : Int32) (vM_keptAll : Int32) (vM_offAll : Int32) (vM_up : Int64) (vM_down : Int64) (vM_sharesUp : Int64) (vM_sharesDown : Int64) (vM_onUp : Int64) (vM_onDown : Int64) (vM_great : Int32) (vM_triedOff : Int32) (vM_triedLeaked : Int32) (vM_triedKept : Int32) (vM_fitting : Int32) (vM_firstSet : Int32) (vM_inAll : Int32) (vM_inAny : Int32) (vM_at : Int32) (vM_sort : Int32) (vM_from : Int32) (vM_value : Int64) (vM_fault : Int32) (out : Int32) (h : f_X8_wrongHere vM_from vM_fault = some out) : Mv l yX8_wrongHere wsX8_wrongHere ({ frames := 0, cells := 0, slots := 0, locals := 0 } : Room) D (tyA cyI cyJ cyZ cyB cyO) [.ref aM] (w_X8_wrongHere cyI cyJ cyZ cyB cyO aM aM_d aM_e aM_f aM_kept aM_found aM_tape aM_came aM_got aM_held aM_off aM_comesUp aM_comesDown aM_path aM_gets aM_gotNow aM_bitsOf aM_sizeOf aM_number aM_passing vM_isKept vM_taped vM_leaked vM_keptAll vM_offAll vM_up vM_down vM_sharesUp vM_sharesDown vM_onUp vM_onDown vM_great vM_triedOff vM_triedLeaked vM_triedKept vM_fitting vM_firstSet vM_inAll vM_inAny vM_at vM_sort vM_from vM_value vM_fault) (w_X8_wrongHere cyI cyJ cyZ cyB cyO aM aM_d aM_e aM_f aM_kept aM_found aM_tape aM_came aM_got aM_held aM_off aM_comesUp aM_comesDown aM_path aM_gets aM_gotNow aM_bitsOf aM_sizeOf aM_number aM_passing vM_isKept vM_taped vM_leaked vM_keptAll vM_offAll vM_up vM_down vM_sharesUp vM_sharesDown vM_onUp vM_onDown vM_great vM_triedOff vM_triedLeaked vM_triedKept vM_fitting vM_firstSet vM_inAll vM_inAny vM_at vM_sort vM_from vM_value out) := by
  refine Mv.mk (cc := cX8_wrongHere) (maxL := 1) (own := RX8) (by decide) rfl rfl (Nat.le_of_ble_eq_true rfl) ?_
  intro p e s m args below meth c A Q F hK hP hD hA hret ls hl
  obtain ⟨hx, hb, hml, hown, hts⟩ := id F
  have hS : va_S A s.heap s.heap [] := va_S.rf
  have hl : lv_has ls 1 [(0, .ref aM)] := hl
  have in_X8 : ∀ w ∈ wsX80, w ∈ wsX8_wrongHere := by decide +kernel
  have q1 := hts (Cond.fieldLink RX8 306 "ThirdFountainModel" "fault" "I") (List.mem_of_getElem? (i := 1) rfl)
  have q2 := hts (Cond.fieldLink RX8 285 "ThirdFountainModel" "from" "I") (List.mem_of_getElem? (i := 2) rfl)
  unfold f_X8_wrongHere at h
  refine lv_aload_n hx hb dX8_wrongHere_0 rfl (lv_at hl 0 rfl) ?_
  refine lv_aload_n hx hb dX8_wrongHere_1 rfl (lv_at hl 0 rfl) ?_
  refine va_get (D := D) (ci := 7) (v := .int vM_fault) (C := RX8) (T := TX8) (N := 43) hx hb hts in_X8 hown hK hP 0 rfl rfl 38 (by decide) q1 (fun _ h9 => h9) rfl dX8_wrongHere_2 ?_
  refine lv_if_ge (tgt := 15) hx hb dX8_wrongHere_5 (by decide) (fun c1 => ?_) (fun c1 => ?_)
  · have h := br_pos c1 h
    refine lv_aload_n hx hb dX8_wrongHere_15 rfl (lv_at hl 0 rfl) ?_
    refine va_get (D := D) (ci := 7) (v := .int vM_fault) (C := RX8) (T := TX8) (N := 43) hx hb hts in_X8 hown hK hP 0 rfl rfl 38 (by decide) q1 (fun _ h9 => h9) rfl dX8_wrongHere_16 ?_
    refine va_put (D := D) (ci := 7) (v := .int vM_fault) (ty := .int) (C := RX8) (T := TX8) (N := 43) hx hb hts in_X8 tyX8 tyX8_ok nmX8 hown hK hP hD hS 0 rfl rfl 38 (by decide) q1 (fun _ h9 => h9) rfl (by decide +kernel) rfl rfl (Nat.le_of_ble_eq_true rfl) dX8_wrongHere_19 (fun H locs hP hD hS => ?_)
    have hP : va_P D vwCl (w_X8_wrongHere cyI cyJ cyZ cyB cyO aM aM_d aM_e aM_f aM_kept aM_found aM_tape aM_came aM_got aM_held aM_off aM_comesUp aM_comesDown aM_path aM_gets aM_gotNow aM_bitsOf aM_sizeOf aM_number aM_passing vM_isKept vM_taped vM_leaked vM_keptAll vM_offAll vM_up vM_down vM_sharesUp vM_sharesDown vM_onUp vM_onDown vM_great vM_triedOff vM_triedLeaked vM_triedKept vM_fitting vM_firstSet vM_inAll vM_inAny vM_at vM_sort vM_from vM_value vM_fault) H := hP
    have hD : va_D A (w_X8_wrongHere cyI cyJ cyZ cyB cyO aM aM_d aM_e aM_f aM_kept aM_found aM_tape aM_came aM_got aM_held aM_off aM_comesUp aM_comesDown aM_path aM_gets aM_gotNow aM_bitsOf aM_sizeOf aM_number aM_passing vM_isKept vM_taped vM_leaked vM_keptAll vM_offAll vM_up vM_down vM_sharesUp vM_sharesDown vM_onUp vM_onDown vM_great vM_triedOff vM_triedLeaked vM_triedKept vM_fitting vM_firstSet vM_inAll vM_inAny vM_at vM_sort vM_from vM_value vM_fault) := hD
    obtain rfl := Option.some.inj h
    exact hret _ _ _ _ hP hD hS dX8_wrongHere_22 
  · have h := br_neg c1 h
    refine lv_aload_n hx hb dX8_wrongHere_8 rfl (lv_at hl 0 rfl) ?_
    refine va_get (D := D) (ci := 7) (v := .int vM_from) (C := RX8) (T := TX8) (N := 43) hx hb hts in_X8 hown hK hP 0 rfl rfl 36 (by decide) q2 (fun _ h9 => h9) rfl dX8_wrongHere_9 ?_
    refine lv_goto (tgt := 19) hx hb dX8_wrongHere_12 (by decide) ?_
    refine va_put (D := D) (ci := 7) (v := .int vM_from) (ty := .int) (C := RX8) (T := TX8) (N := 43) hx hb hts in_X8 tyX8 tyX8_ok nmX8 hown hK hP hD hS 0 rfl rfl 38 (by decide) q1 (fun _ h9 => h9) rfl (by decide +kernel) rfl rfl (Nat.le_of_ble_eq_true rfl) dX8_wrongHere_19 (fun H locs hP hD hS => ?_)
    have hP : va_P D vwCl (w_X8_wrongHere cyI cyJ cyZ cyB cyO aM aM_d aM_e aM_f aM_kept aM_found aM_tape aM_came aM_got aM_held aM_off aM_comesUp aM_comesDown aM_path aM_gets aM_gotNow aM_bitsOf aM_sizeOf aM_number aM_passing vM_isKept vM_taped vM_leaked vM_keptAll vM_offAll vM_up vM_down vM_sharesUp vM_sharesDown vM_onUp vM_onDown vM_great vM_triedOff vM_triedLeaked vM_triedKept vM_fitting vM_firstSet vM_inAll vM_inAny vM_at vM_sort vM_from vM_value vM_from) H := hP
    have hD : va_D A (w_X8_wrongHere cyI cyJ cyZ cyB cyO aM aM_d aM_e aM_f aM_kept aM_found aM_tape aM_came aM_got aM_held aM_off aM_comesUp aM_comesDown aM_path aM_gets aM_gotNow aM_bitsOf aM_sizeOf aM_number aM_passing vM_isKept vM_taped vM_leaked vM_keptAll vM_offAll vM_up vM_down vM_sharesUp vM_sharesDown vM_onUp vM_onDown vM_great vM_triedOff vM_triedLeaked vM_triedKept vM_fitting vM_firstSet vM_inAll vM_inAny vM_at vM_sort vM_from vM_value vM_from) := hD
    obtain rfl := Option.some.inj h
    exact hret _ _ _ _ hP hD hS dX8_wrongHere_22 
/-! ===== X8_isWord ===== -/
def w_X8_isWord (cyI cyJ cyZ cyB cyO : ClassId) (aM aM_d aM_e aM_f aM_kept aM_found aM_tape aM_came aM_got aM_held aM_off aM_comesUp aM_comesDown aM_path aM_gets aM_gotNow aM_bitsOf aM_sizeOf aM_number aM_passing : Nat) (vM_isKept : Int32) (vM_taped : Int32) (vM_leaked : Int32) (vM_keptAll : Int32) (vM_offAll : Int32) (vM_up : Int64) (vM_down : Int64) (vM_sharesUp : Int64) (vM_sharesDown : Int64) (vM_onUp : Int64) (vM_onDown : Int64) (vM_great : Int32) (vM_triedOff : Int32) (vM_triedLeaked : Int32) (vM_triedKept : Int32) (vM_fitting : Int32) (vM_firstSet : Int32) (vM_inAll : Int32) (vM_inAny : Int32) (vM_at : Int32) (vM_sort : Int32) (vM_from : Int32) (vM_value : Int64) (vM_fault : Int32) : va_W := [(aM, .inr (7, [.ref aM_d, .ref aM_e, .ref aM_f, .ref aM_kept, .int vM_isKept, .ref aM_found, .ref aM_tape, .int vM_taped, .ref aM_came, .ref aM_got, .ref aM_held, .ref aM_off, .int vM_leaked, .int vM_keptAll, .int vM_offAll, .ref aM_comesUp, .ref aM_comesDown, .long vM_up, .long vM_down, .long vM_sharesUp, .long vM_sharesDown, .long vM_onUp, .long vM_onDown, .int vM_great, .ref aM_path, .ref aM_gets, .int vM_triedOff, .int vM_triedLeaked, .int vM_triedKept, .ref aM_gotNow, .int vM_fitting, .int vM_firstSet, .int vM_inAll, .int vM_inAny, .int vM_at, .int vM_sort, .int vM_from, .long vM_value, .int vM_fault, .ref aM_bitsOf, .ref aM_sizeOf, .ref aM_number, .ref aM_passing]))]
set_option maxHeartbeats 4000000 in
set_option maxRecDepth 100000 in
theorem t_X8_isWord (l : Launch) (D : va_G) (cyI cyJ cyZ cyB cyO : ClassId) (aM aM_d aM_e aM_f aM_kept aM_found aM_tape aM_came aM_got aM_held aM_off aM_comesUp aM_comesDown aM_path aM_gets aM_gotNow aM_bitsOf aM_sizeOf aM_number aM_passing : Nat) (vM_isKept : Int32) (vM_taped : Int32) (vM_leaked : Int32) (vM_keptAll : Int32) (vM_offAll : Int32) (vM_up : Int64) (vM_down : Int64) (vM_sharesUp : Int64) (vM_sharesDown : Int64) (vM_onUp : Int64) (vM_onDown : Int64) (vM_great : Int32) (vM_triedOff : Int32) (vM_triedLeaked : Int32) (vM_triedKept : Int32) (vM_fitting : Int32) (vM_firstSet : Int32) (vM_inAll : Int32) (vM_inAny : Int32) (vM_at : Int32) (vM_sort : Int32) (vM_from : Int32) (vM_value : Int64) (vM_fault : Int32) (x1 : Int64) (out : Int32) (h : f_X8_isWord x1 vM_sort vM_value = some out) : Mi l yX8_isWord wsX8_isWord ({ frames := 0, cells := 0, slots := 0, locals := 0 } : Room) D (tyA cyI cyJ cyZ cyB cyO) [.ref aM, .long x1] (w_X8_isWord cyI cyJ cyZ cyB cyO aM aM_d aM_e aM_f aM_kept aM_found aM_tape aM_came aM_got aM_held aM_off aM_comesUp aM_comesDown aM_path aM_gets aM_gotNow aM_bitsOf aM_sizeOf aM_number aM_passing vM_isKept vM_taped vM_leaked vM_keptAll vM_offAll vM_up vM_down vM_sharesUp vM_sharesDown vM_onUp vM_onDown vM_great vM_triedOff vM_triedLeaked vM_triedKept vM_fitting vM_firstSet vM_inAll vM_inAny vM_at vM_sort vM_from vM_value vM_fault) (w_X8_isWord cyI cyJ cyZ cyB cyO aM aM_d aM_e aM_f aM_kept aM_found aM_tape aM_came aM_got aM_held aM_off aM_comesUp aM_comesDown aM_path aM_gets aM_gotNow aM_bitsOf aM_sizeOf aM_number aM_passing vM_isKept vM_taped vM_leaked vM_keptAll vM_offAll vM_up vM_down vM_sharesUp vM_sharesDown vM_onUp vM_onDown vM_great vM_triedOff vM_triedLeaked vM_triedKept vM_fitting vM_firstSet vM_inAll vM_inAny vM_at vM_sort vM_from vM_value vM_fault) out := by
  refine Mi.mk (cc := cX8_isWord) (maxL := 3) (rt := .boolean) (own := RX8) (by decide) rfl rfl (Nat.le_of_ble_eq_true rfl) ?_
  intro p e s m args below meth c A Q F hK hP hD hA hret ls hl
  obtain ⟨hx, hb, hml, hown, hts⟩ := id F
  have hS : va_S A s.heap s.heap [] := va_S.rf
  have hl : lv_has ls 3 [(0, .ref aM), (1, .long x1)] := hl
  have in_X8 : ∀ w ∈ wsX80, w ∈ wsX8_isWord := by decide +kernel
  have q1 := hts (Cond.fieldLink RX8 291 "ThirdFountainModel" "sort" "I") (List.mem_of_getElem? (i := 1) rfl)
  have q2 := hts (Cond.fieldLink RX8 288 "ThirdFountainModel" "value" "J") (List.mem_of_getElem? (i := 2) rfl)
  unfold f_X8_isWord at h
  refine lv_aload_n hx hb dX8_isWord_0 rfl (lv_at hl 0 rfl) ?_
  refine va_get (D := D) (ci := 7) (v := .int vM_sort) (C := RX8) (T := TX8) (N := 43) hx hb hts in_X8 hown hK hP 0 rfl rfl 35 (by decide) q1 (fun _ h9 => h9) rfl dX8_isWord_1 ?_
  refine lv_iconst (v := 1) hx hb dX8_isWord_4 (by decide) ?_
  refine lv_icmp_ne (tgt := 21) hx hb dX8_isWord_5 (by decide) (fun c1 => ?_) (fun c1 => ?_)
  · have h := br_neg c1 h
    refine lv_iconst (v := 0) hx hb dX8_isWord_21 (by decide) ?_
    obtain rfl := Option.some.inj h
    exact hret _ _ _ _ _ hP hD hS dX8_isWord_22 (nz_of (Or.inl rfl)) rfl
  · have h := br_pos c1 h
    refine lv_aload_n hx hb dX8_isWord_8 rfl (lv_at hl 0 rfl) ?_
    refine va_get (D := D) (ci := 7) (v := .long vM_value) (C := RX8) (T := TX8) (N := 43) hx hb hts in_X8 hown hK hP 0 rfl rfl 37 (by decide) q2 (fun _ h9 => h9) rfl dX8_isWord_9 ?_
    refine lv_lload_n hx hb dX8_isWord_12 rfl (lv_at hl 1 rfl) ?_
    refine W.lcmp hx hb dX8_isWord_13 ?_
    refine lv_if_ne (tgt := 21) hx hb dX8_isWord_14 (by decide) (fun c2 => ?_) (fun c2 => ?_)
    · have h := br_neg c2 h
      refine lv_iconst (v := 0) hx hb dX8_isWord_21 (by decide) ?_
      obtain rfl := Option.some.inj h
      exact hret _ _ _ _ _ hP hD hS dX8_isWord_22 (nz_of (Or.inl rfl)) rfl
    · have h := br_pos c2 h
      refine lv_iconst (v := 1) hx hb dX8_isWord_17 (by decide) ?_
      refine lv_goto (tgt := 22) hx hb dX8_isWord_18 (by decide) ?_
      obtain rfl := Option.some.inj h
      exact hret _ _ _ _ _ hP hD hS dX8_isWord_22 (nz_of (Or.inr rfl)) rfl
/-! ===== X8_kindHere ===== -/
def w_X8_kindHere (cyI cyJ cyZ cyB cyO : ClassId) (aM aM_d aM_e aM_f aM_kept aM_found aM_tape aM_came aM_got aM_held aM_off aM_comesUp aM_comesDown aM_path aM_gets aM_gotNow aM_bitsOf aM_sizeOf aM_number aM_passing : Nat) (vM_isKept : Int32) (vM_taped : Int32) (vM_leaked : Int32) (vM_keptAll : Int32) (vM_offAll : Int32) (vM_up : Int64) (vM_down : Int64) (vM_sharesUp : Int64) (vM_sharesDown : Int64) (vM_onUp : Int64) (vM_onDown : Int64) (vM_great : Int32) (vM_triedOff : Int32) (vM_triedLeaked : Int32) (vM_triedKept : Int32) (vM_fitting : Int32) (vM_firstSet : Int32) (vM_inAll : Int32) (vM_inAny : Int32) (vM_at : Int32) (vM_sort : Int32) (vM_from : Int32) (vM_value : Int64) (vM_fault : Int32) : va_W := [(aM, .inr (7, [.ref aM_d, .ref aM_e, .ref aM_f, .ref aM_kept, .int vM_isKept, .ref aM_found, .ref aM_tape, .int vM_taped, .ref aM_came, .ref aM_got, .ref aM_held, .ref aM_off, .int vM_leaked, .int vM_keptAll, .int vM_offAll, .ref aM_comesUp, .ref aM_comesDown, .long vM_up, .long vM_down, .long vM_sharesUp, .long vM_sharesDown, .long vM_onUp, .long vM_onDown, .int vM_great, .ref aM_path, .ref aM_gets, .int vM_triedOff, .int vM_triedLeaked, .int vM_triedKept, .ref aM_gotNow, .int vM_fitting, .int vM_firstSet, .int vM_inAll, .int vM_inAny, .int vM_at, .int vM_sort, .int vM_from, .long vM_value, .int vM_fault, .ref aM_bitsOf, .ref aM_sizeOf, .ref aM_number, .ref aM_passing]))]
set_option maxHeartbeats 4000000 in
set_option maxRecDepth 100000 in
theorem t_X8_kindHere (l : Launch) (D : va_G) (cyI cyJ cyZ cyB cyO : ClassId) (aM aM_d aM_e aM_f aM_kept aM_found aM_tape aM_came aM_got aM_held aM_off aM_comesUp aM_comesDown aM_path aM_gets aM_gotNow aM_bitsOf aM_sizeOf aM_number aM_passing : Nat) (vM_isKept : Int32) (vM_taped : Int32) (vM_leaked : Int32) (vM_keptAll : Int32) (vM_offAll : Int32) (vM_up : Int64) (vM_down : Int64) (vM_sharesUp : Int64) (vM_sharesDown : Int64) (vM_onUp : Int64) (vM_onDown : Int64) (vM_great : Int32) (vM_triedOff : Int32) (vM_triedLeaked : Int32) (vM_triedKept : Int32) (vM_fitting : Int32) (vM_firstSet : Int32) (vM_inAll : Int32) (vM_inAny : Int32) (vM_at : Int32) (vM_sort : Int32) (vM_from : Int32) (vM_value : Int64) (vM_fault : Int32) (out : Int32) (h : f_X8_kindHere vM_sort vM_value = some out) : Mi l yX8_kindHere wsX8_kindHere ({ frames := 1, cells := 0, slots := 0, locals := 22 } : Room) D (tyA cyI cyJ cyZ cyB cyO) [.ref aM] (w_X8_kindHere cyI cyJ cyZ cyB cyO aM aM_d aM_e aM_f aM_kept aM_found aM_tape aM_came aM_got aM_held aM_off aM_comesUp aM_comesDown aM_path aM_gets aM_gotNow aM_bitsOf aM_sizeOf aM_number aM_passing vM_isKept vM_taped vM_leaked vM_keptAll vM_offAll vM_up vM_down vM_sharesUp vM_sharesDown vM_onUp vM_onDown vM_great vM_triedOff vM_triedLeaked vM_triedKept vM_fitting vM_firstSet vM_inAll vM_inAny vM_at vM_sort vM_from vM_value vM_fault) (w_X8_kindHere cyI cyJ cyZ cyB cyO aM aM_d aM_e aM_f aM_kept aM_found aM_tape aM_came aM_got aM_held aM_off aM_comesUp aM_comesDown aM_path aM_gets aM_gotNow aM_bitsOf aM_sizeOf aM_number aM_passing vM_isKept vM_taped vM_leaked vM_keptAll vM_offAll vM_up vM_down vM_sharesUp vM_sharesDown vM_onUp vM_onDown vM_great vM_triedOff vM_triedLeaked vM_triedKept vM_fitting vM_firstSet vM_inAll vM_inAny vM_at vM_sort vM_from vM_value vM_fault) out := by
  refine Mi.mk (cc := cX8_kindHere) (maxL := 1) (rt := .int) (own := RX8) (by decide) rfl rfl (Nat.le_of_ble_eq_true rfl) ?_
  intro p e s m args below meth c A Q F hK hP hD hA hret ls hl
  obtain ⟨hx, hb, hml, hown, hts⟩ := id F
  have hS : va_S A s.heap s.heap [] := va_S.rf
  have hl : lv_has ls 1 [(0, .ref aM)] := hl
  have q1 := hts (Cond.constantLong RX8 309 (1096673)) (List.mem_of_getElem? (i := 1) rfl)
  have q8 := hts (Cond.methodLink RX8 311 yX8_isWord) (List.mem_of_getElem? (i := 8) rfl)
  have q2 := hts (Cond.constantLong RX8 315 (1282162423)) (List.mem_of_getElem? (i := 2) rfl)
  have q3 := hts (Cond.constantLong RX8 317 (4721545303)) (List.mem_of_getElem? (i := 3) rfl)
  have q4 := hts (Cond.constantLong RX8 319 (168748)) (List.mem_of_getElem? (i := 4) rfl)
  have q5 := hts (Cond.constantLong RX8 321 (8692006)) (List.mem_of_getElem? (i := 5) rfl)
  have q6 := hts (Cond.constantLong RX8 323 (58192564)) (List.mem_of_getElem? (i := 6) rfl)
  have q7 := hts (Cond.constantLong RX8 325 (2504979733)) (List.mem_of_getElem? (i := 7) rfl)
  unfold f_X8_kindHere at h
  refine lv_aload_n hx hb dX8_kindHere_0 rfl (lv_at hl 0 rfl) ?_
  refine lv_ldc2 (v := 1096673) hx hb hown q1 dX8_kindHere_1 ?_
  obtain ⟨u1, hu1, h⟩ := bd_some h
  refine cl_Vi (rest := []) F hK hP hD hS hA hl (t_X8_isWord l D cyI cyJ cyZ cyB cyO aM aM_d aM_e aM_f aM_kept aM_found aM_tape aM_came aM_got aM_held aM_off aM_comesUp aM_comesDown aM_path aM_gets aM_gotNow aM_bitsOf aM_sizeOf aM_number aM_passing vM_isKept vM_taped vM_leaked vM_keptAll vM_offAll vM_up vM_down vM_sharesUp vM_sharesDown vM_onUp vM_onDown vM_great vM_triedOff vM_triedLeaked vM_triedKept vM_fitting vM_firstSet vM_inAll vM_inAny vM_at vM_sort vM_from vM_value vM_fault (1096673 : Int64) u1 hu1) (cwV 1 hts gX8_kindHere_X8_isWord rfl rfl rfl (by decide +kernel) ⟨Nat.le_of_ble_eq_true rfl, Nat.le_of_ble_eq_true rfl⟩) 0 [0] [1] [] (w_X8_kindHere cyI cyJ cyZ cyB cyO aM aM_d aM_e aM_f aM_kept aM_found aM_tape aM_came aM_got aM_held aM_off aM_comesUp aM_comesDown aM_path aM_gets aM_gotNow aM_bitsOf aM_sizeOf aM_number aM_passing vM_isKept vM_taped vM_leaked vM_keptAll vM_offAll vM_up vM_down vM_sharesUp vM_sharesDown vM_onUp vM_onDown vM_great vM_triedOff vM_triedLeaked vM_triedKept vM_fitting vM_firstSet vM_inAll vM_inAny vM_at vM_sort vM_from vM_value vM_fault) rfl rfl rfl rfl rfl (by decide +kernel) rfl rfl (Nat.le_of_ble_eq_true rfl) ⟨Nat.zero_le _, Nat.zero_le _⟩ dX8_kindHere_4 (fun H locs hP hD hS => ?_)
  refine lv_if_eq (tgt := 14) hx hb dX8_kindHere_7 (by decide) (fun c2 => ?_) (fun c2 => ?_)
  · have h := br_pos c2 h
    refine lv_aload_n hx hb dX8_kindHere_14 rfl (lv_at hl 0 rfl) ?_
    refine lv_ldc2 (v := 1282162423) hx hb hown q2 dX8_kindHere_15 ?_
    obtain ⟨u3, hu3, h⟩ := bd_some h
    refine cl_Vi (rest := []) F hK hP hD hS hA hl (t_X8_isWord l D cyI cyJ cyZ cyB cyO aM aM_d aM_e aM_f aM_kept aM_found aM_tape aM_came aM_got aM_held aM_off aM_comesUp aM_comesDown aM_path aM_gets aM_gotNow aM_bitsOf aM_sizeOf aM_number aM_passing vM_isKept vM_taped vM_leaked vM_keptAll vM_offAll vM_up vM_down vM_sharesUp vM_sharesDown vM_onUp vM_onDown vM_great vM_triedOff vM_triedLeaked vM_triedKept vM_fitting vM_firstSet vM_inAll vM_inAny vM_at vM_sort vM_from vM_value vM_fault (1282162423 : Int64) u3 hu3) (cwV 1 hts gX8_kindHere_X8_isWord rfl rfl rfl (by decide +kernel) ⟨Nat.le_of_ble_eq_true rfl, Nat.le_of_ble_eq_true rfl⟩) 0 [0] [1] [] (w_X8_kindHere cyI cyJ cyZ cyB cyO aM aM_d aM_e aM_f aM_kept aM_found aM_tape aM_came aM_got aM_held aM_off aM_comesUp aM_comesDown aM_path aM_gets aM_gotNow aM_bitsOf aM_sizeOf aM_number aM_passing vM_isKept vM_taped vM_leaked vM_keptAll vM_offAll vM_up vM_down vM_sharesUp vM_sharesDown vM_onUp vM_onDown vM_great vM_triedOff vM_triedLeaked vM_triedKept vM_fitting vM_firstSet vM_inAll vM_inAny vM_at vM_sort vM_from vM_value vM_fault) rfl rfl rfl rfl rfl (by decide +kernel) rfl rfl (Nat.le_of_ble_eq_true rfl) ⟨Nat.zero_le _, Nat.zero_le _⟩ dX8_kindHere_18 (fun H locs hP hD hS => ?_)
    refine lv_if_eq (tgt := 28) hx hb dX8_kindHere_21 (by decide) (fun c4 => ?_) (fun c4 => ?_)
    · have h := br_pos c4 h
      refine lv_aload_n hx hb dX8_kindHere_28 rfl (lv_at hl 0 rfl) ?_
      refine lv_ldc2 (v := 4721545303) hx hb hown q3 dX8_kindHere_29 ?_
      obtain ⟨u5, hu5, h⟩ := bd_some h
      refine cl_Vi (rest := []) F hK hP hD hS hA hl (t_X8_isWord l D cyI cyJ cyZ cyB cyO aM aM_d aM_e aM_f aM_kept aM_found aM_tape aM_came aM_got aM_held aM_off aM_comesUp aM_comesDown aM_path aM_gets aM_gotNow aM_bitsOf aM_sizeOf aM_number aM_passing vM_isKept vM_taped vM_leaked vM_keptAll vM_offAll vM_up vM_down vM_sharesUp vM_sharesDown vM_onUp vM_onDown vM_great vM_triedOff vM_triedLeaked vM_triedKept vM_fitting vM_firstSet vM_inAll vM_inAny vM_at vM_sort vM_from vM_value vM_fault (4721545303 : Int64) u5 hu5) (cwV 1 hts gX8_kindHere_X8_isWord rfl rfl rfl (by decide +kernel) ⟨Nat.le_of_ble_eq_true rfl, Nat.le_of_ble_eq_true rfl⟩) 0 [0] [1] [] (w_X8_kindHere cyI cyJ cyZ cyB cyO aM aM_d aM_e aM_f aM_kept aM_found aM_tape aM_came aM_got aM_held aM_off aM_comesUp aM_comesDown aM_path aM_gets aM_gotNow aM_bitsOf aM_sizeOf aM_number aM_passing vM_isKept vM_taped vM_leaked vM_keptAll vM_offAll vM_up vM_down vM_sharesUp vM_sharesDown vM_onUp vM_onDown vM_great vM_triedOff vM_triedLeaked vM_triedKept vM_fitting vM_firstSet vM_inAll vM_inAny vM_at vM_sort vM_from vM_value vM_fault) rfl rfl rfl rfl rfl (by decide +kernel) rfl rfl (Nat.le_of_ble_eq_true rfl) ⟨Nat.zero_le _, Nat.zero_le _⟩ dX8_kindHere_32 (fun H locs hP hD hS => ?_)
      refine lv_if_eq (tgt := 42) hx hb dX8_kindHere_35 (by decide) (fun c6 => ?_) (fun c6 => ?_)
      · have h := br_pos c6 h
        refine lv_aload_n hx hb dX8_kindHere_42 rfl (lv_at hl 0 rfl) ?_
        refine lv_ldc2 (v := 168748) hx hb hown q4 dX8_kindHere_43 ?_
        obtain ⟨u7, hu7, h⟩ := bd_some h
        refine cl_Vi (rest := []) F hK hP hD hS hA hl (t_X8_isWord l D cyI cyJ cyZ cyB cyO aM aM_d aM_e aM_f aM_kept aM_found aM_tape aM_came aM_got aM_held aM_off aM_comesUp aM_comesDown aM_path aM_gets aM_gotNow aM_bitsOf aM_sizeOf aM_number aM_passing vM_isKept vM_taped vM_leaked vM_keptAll vM_offAll vM_up vM_down vM_sharesUp vM_sharesDown vM_onUp vM_onDown vM_great vM_triedOff vM_triedLeaked vM_triedKept vM_fitting vM_firstSet vM_inAll vM_inAny vM_at vM_sort vM_from vM_value vM_fault (168748 : Int64) u7 hu7) (cwV 1 hts gX8_kindHere_X8_isWord rfl rfl rfl (by decide +kernel) ⟨Nat.le_of_ble_eq_true rfl, Nat.le_of_ble_eq_true rfl⟩) 0 [0] [1] [] (w_X8_kindHere cyI cyJ cyZ cyB cyO aM aM_d aM_e aM_f aM_kept aM_found aM_tape aM_came aM_got aM_held aM_off aM_comesUp aM_comesDown aM_path aM_gets aM_gotNow aM_bitsOf aM_sizeOf aM_number aM_passing vM_isKept vM_taped vM_leaked vM_keptAll vM_offAll vM_up vM_down vM_sharesUp vM_sharesDown vM_onUp vM_onDown vM_great vM_triedOff vM_triedLeaked vM_triedKept vM_fitting vM_firstSet vM_inAll vM_inAny vM_at vM_sort vM_from vM_value vM_fault) rfl rfl rfl rfl rfl (by decide +kernel) rfl rfl (Nat.le_of_ble_eq_true rfl) ⟨Nat.zero_le _, Nat.zero_le _⟩ dX8_kindHere_46 (fun H locs hP hD hS => ?_)
        refine lv_if_eq (tgt := 56) hx hb dX8_kindHere_49 (by decide) (fun c8 => ?_) (fun c8 => ?_)
        · have h := br_pos c8 h
          refine lv_aload_n hx hb dX8_kindHere_56 rfl (lv_at hl 0 rfl) ?_
          refine lv_ldc2 (v := 8692006) hx hb hown q5 dX8_kindHere_57 ?_
          obtain ⟨u9, hu9, h⟩ := bd_some h
          refine cl_Vi (rest := []) F hK hP hD hS hA hl (t_X8_isWord l D cyI cyJ cyZ cyB cyO aM aM_d aM_e aM_f aM_kept aM_found aM_tape aM_came aM_got aM_held aM_off aM_comesUp aM_comesDown aM_path aM_gets aM_gotNow aM_bitsOf aM_sizeOf aM_number aM_passing vM_isKept vM_taped vM_leaked vM_keptAll vM_offAll vM_up vM_down vM_sharesUp vM_sharesDown vM_onUp vM_onDown vM_great vM_triedOff vM_triedLeaked vM_triedKept vM_fitting vM_firstSet vM_inAll vM_inAny vM_at vM_sort vM_from vM_value vM_fault (8692006 : Int64) u9 hu9) (cwV 1 hts gX8_kindHere_X8_isWord rfl rfl rfl (by decide +kernel) ⟨Nat.le_of_ble_eq_true rfl, Nat.le_of_ble_eq_true rfl⟩) 0 [0] [1] [] (w_X8_kindHere cyI cyJ cyZ cyB cyO aM aM_d aM_e aM_f aM_kept aM_found aM_tape aM_came aM_got aM_held aM_off aM_comesUp aM_comesDown aM_path aM_gets aM_gotNow aM_bitsOf aM_sizeOf aM_number aM_passing vM_isKept vM_taped vM_leaked vM_keptAll vM_offAll vM_up vM_down vM_sharesUp vM_sharesDown vM_onUp vM_onDown vM_great vM_triedOff vM_triedLeaked vM_triedKept vM_fitting vM_firstSet vM_inAll vM_inAny vM_at vM_sort vM_from vM_value vM_fault) rfl rfl rfl rfl rfl (by decide +kernel) rfl rfl (Nat.le_of_ble_eq_true rfl) ⟨Nat.zero_le _, Nat.zero_le _⟩ dX8_kindHere_60 (fun H locs hP hD hS => ?_)
          refine lv_if_eq (tgt := 70) hx hb dX8_kindHere_63 (by decide) (fun c10 => ?_) (fun c10 => ?_)
          · have h := br_pos c10 h
            refine lv_aload_n hx hb dX8_kindHere_70 rfl (lv_at hl 0 rfl) ?_
            refine lv_ldc2 (v := 58192564) hx hb hown q6 dX8_kindHere_71 ?_
            obtain ⟨u11, hu11, h⟩ := bd_some h
            refine cl_Vi (rest := []) F hK hP hD hS hA hl (t_X8_isWord l D cyI cyJ cyZ cyB cyO aM aM_d aM_e aM_f aM_kept aM_found aM_tape aM_came aM_got aM_held aM_off aM_comesUp aM_comesDown aM_path aM_gets aM_gotNow aM_bitsOf aM_sizeOf aM_number aM_passing vM_isKept vM_taped vM_leaked vM_keptAll vM_offAll vM_up vM_down vM_sharesUp vM_sharesDown vM_onUp vM_onDown vM_great vM_triedOff vM_triedLeaked vM_triedKept vM_fitting vM_firstSet vM_inAll vM_inAny vM_at vM_sort vM_from vM_value vM_fault (58192564 : Int64) u11 hu11) (cwV 1 hts gX8_kindHere_X8_isWord rfl rfl rfl (by decide +kernel) ⟨Nat.le_of_ble_eq_true rfl, Nat.le_of_ble_eq_true rfl⟩) 0 [0] [1] [] (w_X8_kindHere cyI cyJ cyZ cyB cyO aM aM_d aM_e aM_f aM_kept aM_found aM_tape aM_came aM_got aM_held aM_off aM_comesUp aM_comesDown aM_path aM_gets aM_gotNow aM_bitsOf aM_sizeOf aM_number aM_passing vM_isKept vM_taped vM_leaked vM_keptAll vM_offAll vM_up vM_down vM_sharesUp vM_sharesDown vM_onUp vM_onDown vM_great vM_triedOff vM_triedLeaked vM_triedKept vM_fitting vM_firstSet vM_inAll vM_inAny vM_at vM_sort vM_from vM_value vM_fault) rfl rfl rfl rfl rfl (by decide +kernel) rfl rfl (Nat.le_of_ble_eq_true rfl) ⟨Nat.zero_le _, Nat.zero_le _⟩ dX8_kindHere_74 (fun H locs hP hD hS => ?_)
            refine lv_if_eq (tgt := 84) hx hb dX8_kindHere_77 (by decide) (fun c12 => ?_) (fun c12 => ?_)
            · have h := br_pos c12 h
              refine lv_aload_n hx hb dX8_kindHere_84 rfl (lv_at hl 0 rfl) ?_
              refine lv_ldc2 (v := 2504979733) hx hb hown q7 dX8_kindHere_85 ?_
              obtain ⟨u13, hu13, h⟩ := bd_some h
              refine cl_Vi (rest := []) F hK hP hD hS hA hl (t_X8_isWord l D cyI cyJ cyZ cyB cyO aM aM_d aM_e aM_f aM_kept aM_found aM_tape aM_came aM_got aM_held aM_off aM_comesUp aM_comesDown aM_path aM_gets aM_gotNow aM_bitsOf aM_sizeOf aM_number aM_passing vM_isKept vM_taped vM_leaked vM_keptAll vM_offAll vM_up vM_down vM_sharesUp vM_sharesDown vM_onUp vM_onDown vM_great vM_triedOff vM_triedLeaked vM_triedKept vM_fitting vM_firstSet vM_inAll vM_inAny vM_at vM_sort vM_from vM_value vM_fault (2504979733 : Int64) u13 hu13) (cwV 1 hts gX8_kindHere_X8_isWord rfl rfl rfl (by decide +kernel) ⟨Nat.le_of_ble_eq_true rfl, Nat.le_of_ble_eq_true rfl⟩) 0 [0] [1] [] (w_X8_kindHere cyI cyJ cyZ cyB cyO aM aM_d aM_e aM_f aM_kept aM_found aM_tape aM_came aM_got aM_held aM_off aM_comesUp aM_comesDown aM_path aM_gets aM_gotNow aM_bitsOf aM_sizeOf aM_number aM_passing vM_isKept vM_taped vM_leaked vM_keptAll vM_offAll vM_up vM_down vM_sharesUp vM_sharesDown vM_onUp vM_onDown vM_great vM_triedOff vM_triedLeaked vM_triedKept vM_fitting vM_firstSet vM_inAll vM_inAny vM_at vM_sort vM_from vM_value vM_fault) rfl rfl rfl rfl rfl (by decide +kernel) rfl rfl (Nat.le_of_ble_eq_true rfl) ⟨Nat.zero_le _, Nat.zero_le _⟩ dX8_kindHere_88 (fun H locs hP hD hS => ?_)
              refine lv_if_eq (tgt := 99) hx hb dX8_kindHere_91 (by decide) (fun c14 => ?_) (fun c14 => ?_)
              · have h := br_pos c14 h
                refine lv_iconst (v := -1) hx hb dX8_kindHere_99 (by decide) ?_
                obtain rfl := Option.some.inj h
                exact hret _ _ _ _ _ hP hD hS dX8_kindHere_100 rfl rfl
              · have h := br_neg c14 h
                refine lv_bipush (v := 6) hx hb dX8_kindHere_94 (by decide) ?_
                refine lv_goto (tgt := 100) hx hb dX8_kindHere_96 (by decide) ?_
                obtain rfl := Option.some.inj h
                exact hret _ _ _ _ _ hP hD hS dX8_kindHere_100 rfl rfl
            · have h := br_neg c12 h
              refine lv_iconst (v := 5) hx hb dX8_kindHere_80 (by decide) ?_
              refine lv_goto (tgt := 100) hx hb dX8_kindHere_81 (by decide) ?_
              obtain rfl := Option.some.inj h
              exact hret _ _ _ _ _ hP hD hS dX8_kindHere_100 rfl rfl
          · have h := br_neg c10 h
            refine lv_iconst (v := 4) hx hb dX8_kindHere_66 (by decide) ?_
            refine lv_goto (tgt := 100) hx hb dX8_kindHere_67 (by decide) ?_
            obtain rfl := Option.some.inj h
            exact hret _ _ _ _ _ hP hD hS dX8_kindHere_100 rfl rfl
        · have h := br_neg c8 h
          refine lv_iconst (v := 3) hx hb dX8_kindHere_52 (by decide) ?_
          refine lv_goto (tgt := 100) hx hb dX8_kindHere_53 (by decide) ?_
          obtain rfl := Option.some.inj h
          exact hret _ _ _ _ _ hP hD hS dX8_kindHere_100 rfl rfl
      · have h := br_neg c6 h
        refine lv_iconst (v := 2) hx hb dX8_kindHere_38 (by decide) ?_
        refine lv_goto (tgt := 100) hx hb dX8_kindHere_39 (by decide) ?_
        obtain rfl := Option.some.inj h
        exact hret _ _ _ _ _ hP hD hS dX8_kindHere_100 rfl rfl
    · have h := br_neg c4 h
      refine lv_iconst (v := 1) hx hb dX8_kindHere_24 (by decide) ?_
      refine lv_goto (tgt := 100) hx hb dX8_kindHere_25 (by decide) ?_
      obtain rfl := Option.some.inj h
      exact hret _ _ _ _ _ hP hD hS dX8_kindHere_100 rfl rfl
  · have h := br_neg c2 h
    refine lv_iconst (v := 0) hx hb dX8_kindHere_10 (by decide) ?_
    refine lv_goto (tgt := 100) hx hb dX8_kindHere_11 (by decide) ?_
    obtain rfl := Option.some.inj h
    exact hret _ _ _ _ _ hP hD hS dX8_kindHere_100 rfl rfl
/-! ===== X8_numberHere ===== -/
def w_X8_numberHere (cyI cyJ cyZ cyB cyO : ClassId) (aM aM_tape aM_d aM_e aM_f aM_kept aM_found aM_came aM_got aM_held aM_off aM_comesUp aM_comesDown aM_path aM_gets aM_gotNow aM_bitsOf aM_sizeOf aM_number aM_passing : Nat) (vM_isKept : Int32) (vM_taped : Int32) (vM_leaked : Int32) (vM_keptAll : Int32) (vM_offAll : Int32) (vM_up : Int64) (vM_down : Int64) (vM_sharesUp : Int64) (vM_sharesDown : Int64) (vM_onUp : Int64) (vM_onDown : Int64) (vM_great : Int32) (vM_triedOff : Int32) (vM_triedLeaked : Int32) (vM_triedKept : Int32) (vM_fitting : Int32) (vM_firstSet : Int32) (vM_inAll : Int32) (vM_inAny : Int32) (vM_at : Int32) (vM_sort : Int32) (vM_from : Int32) (vM_value : Int64) (vM_fault : Int32) (cM_tape : Nat → Int32) : va_W := [(aM, .inr (7, [.ref aM_d, .ref aM_e, .ref aM_f, .ref aM_kept, .int vM_isKept, .ref aM_found, .ref aM_tape, .int vM_taped, .ref aM_came, .ref aM_got, .ref aM_held, .ref aM_off, .int vM_leaked, .int vM_keptAll, .int vM_offAll, .ref aM_comesUp, .ref aM_comesDown, .long vM_up, .long vM_down, .long vM_sharesUp, .long vM_sharesDown, .long vM_onUp, .long vM_onDown, .int vM_great, .ref aM_path, .ref aM_gets, .int vM_triedOff, .int vM_triedLeaked, .int vM_triedKept, .ref aM_gotNow, .int vM_fitting, .int vM_firstSet, .int vM_inAll, .int vM_inAny, .int vM_at, .int vM_sort, .int vM_from, .long vM_value, .int vM_fault, .ref aM_bitsOf, .ref aM_sizeOf, .ref aM_number, .ref aM_passing])), (aM_tape, .inl (cyB, 120, .inl cM_tape))]
set_option maxHeartbeats 4000000 in
set_option maxRecDepth 100000 in
theorem t_X8_numberHere (l : Launch) (D : va_G) (cyI cyJ cyZ cyB cyO : ClassId) (aM aM_tape aM_d aM_e aM_f aM_kept aM_found aM_came aM_got aM_held aM_off aM_comesUp aM_comesDown aM_path aM_gets aM_gotNow aM_bitsOf aM_sizeOf aM_number aM_passing : Nat) (vM_isKept : Int32) (vM_taped : Int32) (vM_leaked : Int32) (vM_keptAll : Int32) (vM_offAll : Int32) (vM_up : Int64) (vM_down : Int64) (vM_sharesUp : Int64) (vM_sharesDown : Int64) (vM_onUp : Int64) (vM_onDown : Int64) (vM_great : Int32) (vM_triedOff : Int32) (vM_triedLeaked : Int32) (vM_triedKept : Int32) (vM_fitting : Int32) (vM_firstSet : Int32) (vM_inAll : Int32) (vM_inAny : Int32) (vM_at : Int32) (vM_sort : Int32) (vM_from : Int32) (vM_value : Int64) (vM_fault : Int32) (cM_tape : Nat → Int32) (x1 : Int32) (x2 : Int32) (out : Int32 × Int32 × Int32 × Int32 × Int64 × Int32) (h : f_X8_numberHere x1 x2 vM_taped vM_at vM_sort vM_from vM_value vM_fault cM_tape = some out) : Mi l yX8_numberHere wsX8_numberHere ({ frames := 2, cells := 0, slots := 0, locals := 42 } : Room) D (tyA cyI cyJ cyZ cyB cyO) [.ref aM, .int x1, .int x2] (w_X8_numberHere cyI cyJ cyZ cyB cyO aM aM_tape aM_d aM_e aM_f aM_kept aM_found aM_came aM_got aM_held aM_off aM_comesUp aM_comesDown aM_path aM_gets aM_gotNow aM_bitsOf aM_sizeOf aM_number aM_passing vM_isKept vM_taped vM_leaked vM_keptAll vM_offAll vM_up vM_down vM_sharesUp vM_sharesDown vM_onUp vM_onDown vM_great vM_triedOff vM_triedLeaked vM_triedKept vM_fitting vM_firstSet vM_inAll vM_inAny vM_at vM_sort vM_from vM_value vM_fault cM_tape) (w_X8_numberHere cyI cyJ cyZ cyB cyO aM aM_tape aM_d aM_e aM_f aM_kept aM_found aM_came aM_got aM_held aM_off aM_comesUp aM_comesDown aM_path aM_gets aM_gotNow aM_bitsOf aM_sizeOf aM_number aM_passing vM_isKept vM_taped vM_leaked vM_keptAll vM_offAll vM_up vM_down vM_sharesUp vM_sharesDown vM_onUp vM_onDown vM_great vM_triedOff vM_triedLeaked vM_triedKept vM_fitting vM_firstSet vM_inAll vM_inAny out.2.1 out.2.2.1 out.2.2.2.1 out.2.2.2.2.1 out.2.2.2.2.2 cM_tape) out.1 := by
  refine Mi.mk (cc := cX8_numberHere) (maxL := 4) (rt := .int) (own := RX8) (by decide) rfl rfl (Nat.le_of_ble_eq_true rfl) ?_
  intro p e s m args below meth c A Q F hK hP hD hA hret ls hl
  obtain ⟨hx, hb, hml, hown, hts⟩ := id F
  have hS : va_S A s.heap s.heap [] := va_S.rf
  have hl : lv_has ls 4 [(0, .ref aM), (1, .int x1), (2, .int x2)] := hl
  have in_X8 : ∀ w ∈ wsX80, w ∈ wsX8_numberHere := by decide +kernel
  have q1 := hts (Cond.fieldLink RX8 288 "ThirdFountainModel" "value" "J") (List.mem_of_getElem? (i := 1) rfl)
  have q2 := hts (Cond.fieldLink RX8 291 "ThirdFountainModel" "sort" "I") (List.mem_of_getElem? (i := 2) rfl)
  have q7 := hts (Cond.methodLink RX8 327 yX8_wrongHere) (List.mem_of_getElem? (i := 7) rfl)
  have q3 := hts (Cond.methodLink RX8 70 yX8_in) (List.mem_of_getElem? (i := 3) rfl)
  have q13 := hts (Cond.methodLink RX8 330 yX8_next) (List.mem_of_getElem? (i := 13) rfl)
  unfold f_X8_numberHere at h
  refine lv_aload_n hx hb dX8_numberHere_0 rfl (lv_at hl 0 rfl) ?_
  refine va_get (D := D) (ci := 7) (v := .long vM_value) (C := RX8) (T := TX8) (N := 43) hx hb hts in_X8 hown hK hP 0 rfl rfl 37 (by decide) q1 (fun _ h9 => h9) rfl dX8_numberHere_1 ?_
  refine lv_l2i hx hb dX8_numberHere_4 rfl ?_
  refine lv_istore_n (lv' := [(3, .int vM_value.toInt32), (0, .ref aM), (1, .int x1), (2, .int x2)]) hx hb dX8_numberHere_5 rfl hl (by decide) rfl (fun ls hl => ?_)
  refine lv_aload_n hx hb dX8_numberHere_6 rfl (lv_at hl 1 rfl) ?_
  refine va_get (D := D) (ci := 7) (v := .int vM_sort) (C := RX8) (T := TX8) (N := 43) hx hb hts in_X8 hown hK hP 0 rfl rfl 35 (by decide) q2 (fun _ h9 => h9) rfl dX8_numberHere_7 ?_
  refine lv_iconst (v := 2) hx hb dX8_numberHere_10 (by decide) ?_
  refine lv_icmp_ne (tgt := 28) hx hb dX8_numberHere_11 (by decide) (fun c1 => ?_) (fun c1 => ?_)
  · have h := br_neg c1 h
    refine lv_aload_n hx hb dX8_numberHere_28 rfl (lv_at hl 1 rfl) ?_
    obtain ⟨u2, hu2, h⟩ := bd_some h
    refine cl_Vv (rest := []) F hK hP hD hS hA hl (t_X8_wrongHere l D cyI cyJ cyZ cyB cyO aM aM_d aM_e aM_f aM_kept aM_found aM_tape aM_came aM_got aM_held aM_off aM_comesUp aM_comesDown aM_path aM_gets aM_gotNow aM_bitsOf aM_sizeOf aM_number aM_passing vM_isKept vM_taped vM_leaked vM_keptAll vM_offAll vM_up vM_down vM_sharesUp vM_sharesDown vM_onUp vM_onDown vM_great vM_triedOff vM_triedLeaked vM_triedKept vM_fitting vM_firstSet vM_inAll vM_inAny vM_at vM_sort vM_from vM_value vM_fault u2 hu2) (cwV 0 hts gX8_numberHere_X8_wrongHere rfl rfl rfl (by decide +kernel) ⟨Nat.le_of_ble_eq_true rfl, Nat.le_of_ble_eq_true rfl⟩) 0 [0] [1, 0] [] (w_X8_numberHere cyI cyJ cyZ cyB cyO aM aM_tape aM_d aM_e aM_f aM_kept aM_found aM_came aM_got aM_held aM_off aM_comesUp aM_comesDown aM_path aM_gets aM_gotNow aM_bitsOf aM_sizeOf aM_number aM_passing vM_isKept vM_taped vM_leaked vM_keptAll vM_offAll vM_up vM_down vM_sharesUp vM_sharesDown vM_onUp vM_onDown vM_great vM_triedOff vM_triedLeaked vM_triedKept vM_fitting vM_firstSet vM_inAll vM_inAny vM_at vM_sort vM_from vM_value u2 cM_tape) rfl rfl rfl rfl rfl (by decide +kernel) rfl rfl (Nat.le_of_ble_eq_true rfl) ⟨Nat.zero_le _, Nat.zero_le _⟩ dX8_numberHere_29 (fun H locs hP hD hS => ?_)
    refine lv_iload_n hx hb dX8_numberHere_32 rfl (lv_at hl 2 rfl) ?_
    obtain rfl := Option.some.inj h
    exact hret _ _ _ _ _ hP hD hS dX8_numberHere_33 rfl rfl
  · have h := br_pos c1 h
    refine lv_aload_n hx hb dX8_numberHere_14 rfl (lv_at hl 1 rfl) ?_
    refine va_get (D := D) (ci := 7) (v := .long vM_value) (C := RX8) (T := TX8) (N := 43) hx hb hts in_X8 hown hK hP 0 rfl rfl 37 (by decide) q1 (fun _ h9 => h9) rfl dX8_numberHere_15 ?_
    refine lv_iload_n hx hb dX8_numberHere_18 rfl (lv_at hl 2 rfl) ?_
    refine lv_i2l hx hb dX8_numberHere_19 rfl ?_
    refine lv_iload_n hx hb dX8_numberHere_20 rfl (lv_at hl 3 rfl) ?_
    refine lv_i2l hx hb dX8_numberHere_21 rfl ?_
    obtain ⟨u3, hu3, h⟩ := bd_some h
    refine cl_Si (rest := []) F hK hP hD hS hA hl (t_X8_in l D cyI cyJ cyZ cyB cyO vM_value x1.toInt64 x2.toInt64 u3 hu3) (va_cwS 3 hts gX8_numberHere_X8_in rfl rfl rfl (by decide +kernel) ⟨Nat.le_of_ble_eq_true rfl, Nat.le_of_ble_eq_true rfl⟩) [] [0, 0] [] (w_X8_numberHere cyI cyJ cyZ cyB cyO aM aM_tape aM_d aM_e aM_f aM_kept aM_found aM_came aM_got aM_held aM_off aM_comesUp aM_comesDown aM_path aM_gets aM_gotNow aM_bitsOf aM_sizeOf aM_number aM_passing vM_isKept vM_taped vM_leaked vM_keptAll vM_offAll vM_up vM_down vM_sharesUp vM_sharesDown vM_onUp vM_onDown vM_great vM_triedOff vM_triedLeaked vM_triedKept vM_fitting vM_firstSet vM_inAll vM_inAny vM_at vM_sort vM_from vM_value vM_fault cM_tape) rfl rfl rfl (by decide +kernel) rfl rfl (Nat.le_of_ble_eq_true rfl) ⟨Nat.zero_le _, Nat.zero_le _⟩ dX8_numberHere_22 (fun H locs hP hD hS => ?_)
    refine lv_if_ne (tgt := 34) hx hb dX8_numberHere_25 (by decide) (fun c4 => ?_) (fun c4 => ?_)
    · have h := br_neg c4 h
      refine lv_aload_n hx hb dX8_numberHere_34 rfl (lv_at hl 1 rfl) ?_
      obtain ⟨u5, hu5, h⟩ := bd_some h
      refine cl_Vv (rest := []) F hK hP hD hS hA hl (t_X8_next l D cyI cyJ cyZ cyB cyO aM aM_tape aM_d aM_e aM_f aM_kept aM_found aM_came aM_got aM_held aM_off aM_comesUp aM_comesDown aM_path aM_gets aM_gotNow aM_bitsOf aM_sizeOf aM_number aM_passing vM_isKept vM_taped vM_leaked vM_keptAll vM_offAll vM_up vM_down vM_sharesUp vM_sharesDown vM_onUp vM_onDown vM_great vM_triedOff vM_triedLeaked vM_triedKept vM_fitting vM_firstSet vM_inAll vM_inAny vM_at vM_sort vM_from vM_value vM_fault cM_tape u5 hu5) (cwV 0 hts gX8_numberHere_X8_next rfl rfl rfl (by decide +kernel) ⟨Nat.le_of_ble_eq_true rfl, Nat.le_of_ble_eq_true rfl⟩) 0 [0, 1] [1, 2] [] (w_X8_numberHere cyI cyJ cyZ cyB cyO aM aM_tape aM_d aM_e aM_f aM_kept aM_found aM_came aM_got aM_held aM_off aM_comesUp aM_comesDown aM_path aM_gets aM_gotNow aM_bitsOf aM_sizeOf aM_number aM_passing vM_isKept vM_taped vM_leaked vM_keptAll vM_offAll vM_up vM_down vM_sharesUp vM_sharesDown vM_onUp vM_onDown vM_great vM_triedOff vM_triedLeaked vM_triedKept vM_fitting vM_firstSet vM_inAll vM_inAny u5.1 u5.2.1 u5.2.2.1 u5.2.2.2 vM_fault cM_tape) rfl rfl rfl rfl rfl (by decide +kernel) rfl rfl (Nat.le_of_ble_eq_true rfl) ⟨Nat.zero_le _, Nat.zero_le _⟩ dX8_numberHere_35 (fun H locs hP hD hS => ?_)
      refine lv_iload_n hx hb dX8_numberHere_38 rfl (lv_at hl 0 rfl) ?_
      obtain rfl := Option.some.inj h
      exact hret _ _ _ _ _ hP hD hS dX8_numberHere_39 rfl rfl
    · have h := br_pos c4 h
      refine lv_aload_n hx hb dX8_numberHere_28 rfl (lv_at hl 1 rfl) ?_
      obtain ⟨u6, hu6, h⟩ := bd_some h
      refine cl_Vv (rest := []) F hK hP hD hS hA hl (t_X8_wrongHere l D cyI cyJ cyZ cyB cyO aM aM_d aM_e aM_f aM_kept aM_found aM_tape aM_came aM_got aM_held aM_off aM_comesUp aM_comesDown aM_path aM_gets aM_gotNow aM_bitsOf aM_sizeOf aM_number aM_passing vM_isKept vM_taped vM_leaked vM_keptAll vM_offAll vM_up vM_down vM_sharesUp vM_sharesDown vM_onUp vM_onDown vM_great vM_triedOff vM_triedLeaked vM_triedKept vM_fitting vM_firstSet vM_inAll vM_inAny vM_at vM_sort vM_from vM_value vM_fault u6 hu6) (cwV 0 hts gX8_numberHere_X8_wrongHere rfl rfl rfl (by decide +kernel) ⟨Nat.le_of_ble_eq_true rfl, Nat.le_of_ble_eq_true rfl⟩) 0 [0] [1, 0] [] (w_X8_numberHere cyI cyJ cyZ cyB cyO aM aM_tape aM_d aM_e aM_f aM_kept aM_found aM_came aM_got aM_held aM_off aM_comesUp aM_comesDown aM_path aM_gets aM_gotNow aM_bitsOf aM_sizeOf aM_number aM_passing vM_isKept vM_taped vM_leaked vM_keptAll vM_offAll vM_up vM_down vM_sharesUp vM_sharesDown vM_onUp vM_onDown vM_great vM_triedOff vM_triedLeaked vM_triedKept vM_fitting vM_firstSet vM_inAll vM_inAny vM_at vM_sort vM_from vM_value u6 cM_tape) rfl rfl rfl rfl rfl (by decide +kernel) rfl rfl (Nat.le_of_ble_eq_true rfl) ⟨Nat.zero_le _, Nat.zero_le _⟩ dX8_numberHere_29 (fun H locs hP hD hS => ?_)
      refine lv_iload_n hx hb dX8_numberHere_32 rfl (lv_at hl 2 rfl) ?_
      obtain rfl := Option.some.inj h
      exact hret _ _ _ _ _ hP hD hS dX8_numberHere_33 rfl rfl
/-! ===== X8_basinHere ===== -/
def w_X8_basinHere (cyI cyJ cyZ cyB cyO : ClassId) (aM aM_d aM_tape aM_e aM_f aM_kept aM_found aM_came aM_got aM_held aM_off aM_comesUp aM_comesDown aM_path aM_gets aM_gotNow aM_bitsOf aM_sizeOf aM_number aM_passing : Nat) (vM_isKept : Int32) (vM_taped : Int32) (vM_leaked : Int32) (vM_keptAll : Int32) (vM_offAll : Int32) (vM_up : Int64) (vM_down : Int64) (vM_sharesUp : Int64) (vM_sharesDown : Int64) (vM_onUp : Int64) (vM_onDown : Int64) (vM_great : Int32) (vM_triedOff : Int32) (vM_triedLeaked : Int32) (vM_triedKept : Int32) (vM_fitting : Int32) (vM_firstSet : Int32) (vM_inAll : Int32) (vM_inAny : Int32) (vM_at : Int32) (vM_sort : Int32) (vM_from : Int32) (vM_value : Int64) (vM_fault : Int32) (cM_d : Nat → Int32) (cM_tape : Nat → Int32) : va_W := [(aM, .inr (7, [.ref aM_d, .ref aM_e, .ref aM_f, .ref aM_kept, .int vM_isKept, .ref aM_found, .ref aM_tape, .int vM_taped, .ref aM_came, .ref aM_got, .ref aM_held, .ref aM_off, .int vM_leaked, .int vM_keptAll, .int vM_offAll, .ref aM_comesUp, .ref aM_comesDown, .long vM_up, .long vM_down, .long vM_sharesUp, .long vM_sharesDown, .long vM_onUp, .long vM_onDown, .int vM_great, .ref aM_path, .ref aM_gets, .int vM_triedOff, .int vM_triedLeaked, .int vM_triedKept, .ref aM_gotNow, .int vM_fitting, .int vM_firstSet, .int vM_inAll, .int vM_inAny, .int vM_at, .int vM_sort, .int vM_from, .long vM_value, .int vM_fault, .ref aM_bitsOf, .ref aM_sizeOf, .ref aM_number, .ref aM_passing])), (aM_d, .inl (cyI, 64, .inl cM_d)), (aM_tape, .inl (cyB, 120, .inl cM_tape))]
set_option maxHeartbeats 4000000 in
set_option maxRecDepth 100000 in
theorem t_X8_basinHere (l : Launch) (D : va_G) (cyI cyJ cyZ cyB cyO : ClassId) (aM aM_d aM_tape aM_e aM_f aM_kept aM_found aM_came aM_got aM_held aM_off aM_comesUp aM_comesDown aM_path aM_gets aM_gotNow aM_bitsOf aM_sizeOf aM_number aM_passing : Nat) (vM_isKept : Int32) (vM_taped : Int32) (vM_leaked : Int32) (vM_keptAll : Int32) (vM_offAll : Int32) (vM_up : Int64) (vM_down : Int64) (vM_sharesUp : Int64) (vM_sharesDown : Int64) (vM_onUp : Int64) (vM_onDown : Int64) (vM_great : Int32) (vM_triedOff : Int32) (vM_triedLeaked : Int32) (vM_triedKept : Int32) (vM_fitting : Int32) (vM_firstSet : Int32) (vM_inAll : Int32) (vM_inAny : Int32) (vM_at : Int32) (vM_sort : Int32) (vM_from : Int32) (vM_value : Int64) (vM_fault : Int32) (cM_d : Nat → Int32) (cM_tape : Nat → Int32) (x1 : Int32) (out : Int32 × Int32 × Int32 × Int64 × Int32 × (Nat → Int32)) (h : f_X8_basinHere x1 vM_taped vM_at vM_sort vM_from vM_value vM_fault cM_d cM_tape = some out) : Mv l yX8_basinHere wsX8_basinHere ({ frames := 3, cells := 0, slots := 0, locals := 65 } : Room) D (tyA cyI cyJ cyZ cyB cyO) [.ref aM, .int x1] (w_X8_basinHere cyI cyJ cyZ cyB cyO aM aM_d aM_tape aM_e aM_f aM_kept aM_found aM_came aM_got aM_held aM_off aM_comesUp aM_comesDown aM_path aM_gets aM_gotNow aM_bitsOf aM_sizeOf aM_number aM_passing vM_isKept vM_taped vM_leaked vM_keptAll vM_offAll vM_up vM_down vM_sharesUp vM_sharesDown vM_onUp vM_onDown vM_great vM_triedOff vM_triedLeaked vM_triedKept vM_fitting vM_firstSet vM_inAll vM_inAny vM_at vM_sort vM_from vM_value vM_fault cM_d cM_tape) (w_X8_basinHere cyI cyJ cyZ cyB cyO aM aM_d aM_tape aM_e aM_f aM_kept aM_found aM_came aM_got aM_held aM_off aM_comesUp aM_comesDown aM_path aM_gets aM_gotNow aM_bitsOf aM_sizeOf aM_number aM_passing vM_isKept vM_taped vM_leaked vM_keptAll vM_offAll vM_up vM_down vM_sharesUp vM_sharesDown vM_onUp vM_onDown vM_great vM_triedOff vM_triedLeaked vM_triedKept vM_fitting vM_firstSet vM_inAll vM_inAny out.1 out.2.1 out.2.2.1 out.2.2.2.1 out.2.2.2.2.1 out.2.2.2.2.2 cM_tape) := by
  refine Mv.mk (cc := cX8_basinHere) (maxL := 5) (own := RX8) (by decide) rfl rfl (Nat.le_of_ble_eq_true rfl) ?_
  intro p e s m args below meth c A Q F hK hP hD hA hret ls hl
  obtain ⟨hx, hb, hml, hown, hts⟩ := id F
  have hS : va_S A s.heap s.heap [] := va_S.rf
  have hl : lv_has ls 5 [(0, .ref aM), (1, .int x1)] := hl
  have in_X8 : ∀ w ∈ wsX80, w ∈ wsX8_basinHere := by decide +kernel
  have q1 := hts (Cond.fieldLink RX8 7 "ThirdFountainModel" "d" "[I") (List.mem_of_getElem? (i := 1) rfl)
  have q11 := hts (Cond.methodLink RX8 330 yX8_next) (List.mem_of_getElem? (i := 11) rfl)
  have q4 := hts (Cond.constantLong RX8 338 (101525)) (List.mem_of_getElem? (i := 4) rfl)
  have q35 := hts (Cond.methodLink RX8 311 yX8_isWord) (List.mem_of_getElem? (i := 35) rfl)
  have q3 := hts (Cond.fieldLink RX8 306 "ThirdFountainModel" "fault" "I") (List.mem_of_getElem? (i := 3) rfl)
  have q46 := hts (Cond.methodLink RX8 118 yX8_comes) (List.mem_of_getElem? (i := 46) rfl)
  have q39 := hts (Cond.methodLink RX8 335 yX8_numberHere) (List.mem_of_getElem? (i := 39) rfl)
  have q2 := hts (Cond.constantLong RX8 333 (1170473)) (List.mem_of_getElem? (i := 2) rfl)
  have q5 := hts (Cond.methodLink RX8 327 yX8_wrongHere) (List.mem_of_getElem? (i := 5) rfl)
  unfold f_X8_basinHere at h
  refine lv_aload_n hx hb dX8_basinHere_0 rfl (lv_at hl 0 rfl) ?_
  refine va_get (D := D) (ci := 7) (v := .ref aM_d) (C := RX8) (T := TX8) (N := 43) hx hb hts in_X8 hown hK hP 0 rfl rfl 0 (by decide) q1 (fun _ h9 => h9) rfl dX8_basinHere_1 ?_
  refine lv_iconst (v := 0) hx hb dX8_basinHere_4 (by decide) ?_
  refine va_iald hx hb hK hP 1 0 rfl rfl (by unfold vp_in; decide) dX8_basinHere_5 ?_
  refine lv_bipush (v := 10) hx hb dX8_basinHere_6 (by decide) ?_
  refine lv_icmp_ne (tgt := 16) hx hb dX8_basinHere_8 (by decide) (fun c1 => ?_) (fun c1 => ?_)
  · have h := br_neg c1 h
    refine lv_aload_n hx hb dX8_basinHere_16 rfl (lv_at hl 0 rfl) ?_
    obtain ⟨u2, hu2, h⟩ := bd_some h
    refine cl_Vv (rest := []) F hK hP hD hS hA hl (t_X8_next l D cyI cyJ cyZ cyB cyO aM aM_tape aM_d aM_e aM_f aM_kept aM_found aM_came aM_got aM_held aM_off aM_comesUp aM_comesDown aM_path aM_gets aM_gotNow aM_bitsOf aM_sizeOf aM_number aM_passing vM_isKept vM_taped vM_leaked vM_keptAll vM_offAll vM_up vM_down vM_sharesUp vM_sharesDown vM_onUp vM_onDown vM_great vM_triedOff vM_triedLeaked vM_triedKept vM_fitting vM_firstSet vM_inAll vM_inAny vM_at vM_sort vM_from vM_value vM_fault cM_tape u2 hu2) (cwV 0 hts gX8_basinHere_X8_next rfl rfl rfl (by decide +kernel) ⟨Nat.le_of_ble_eq_true rfl, Nat.le_of_ble_eq_true rfl⟩) 0 [0, 2] [1, 0, 2] [] (w_X8_basinHere cyI cyJ cyZ cyB cyO aM aM_d aM_tape aM_e aM_f aM_kept aM_found aM_came aM_got aM_held aM_off aM_comesUp aM_comesDown aM_path aM_gets aM_gotNow aM_bitsOf aM_sizeOf aM_number aM_passing vM_isKept vM_taped vM_leaked vM_keptAll vM_offAll vM_up vM_down vM_sharesUp vM_sharesDown vM_onUp vM_onDown vM_great vM_triedOff vM_triedLeaked vM_triedKept vM_fitting vM_firstSet vM_inAll vM_inAny u2.1 u2.2.1 u2.2.2.1 u2.2.2.2 vM_fault cM_d cM_tape) rfl rfl rfl rfl rfl (by decide +kernel) rfl rfl (Nat.le_of_ble_eq_true rfl) ⟨Nat.zero_le _, Nat.zero_le _⟩ dX8_basinHere_17 (fun H locs hP hD hS => ?_)
    refine lv_iconst (v := -1) hx hb dX8_basinHere_20 (by decide) ?_
    refine lv_istore_n (lv' := [(2, .int (-1 : Int32)), (0, .ref aM), (1, .int x1)]) hx hb dX8_basinHere_21 rfl hl (by decide) rfl (fun ls hl => ?_)
    refine lv_aload_n hx hb dX8_basinHere_22 rfl (lv_at hl 1 rfl) ?_
    refine va_get (D := D) (ci := 7) (v := .ref aM_d) (C := RX8) (T := TX8) (N := 43) hx hb hts in_X8 hown hK hP 0 rfl rfl 0 (by decide) q1 (fun _ h9 => h9) rfl dX8_basinHere_23 ?_
    refine lv_iconst (v := 0) hx hb dX8_basinHere_26 (by decide) ?_
    refine va_iald hx hb hK hP 1 0 rfl rfl (by unfold vp_in; decide) dX8_basinHere_27 ?_
    have j72 : ∀ (y2 : Int32) (vM_at : Int32) (vM_sort : Int32) (vM_from : Int32) (vM_value : Int64) (vM_fault : Int32) (cM_d : Nat → Int32) (H : Heap) (locs : List Loc) (ls : Array Slot), va_P D vwCl (w_X8_basinHere cyI cyJ cyZ cyB cyO aM aM_d aM_tape aM_e aM_f aM_kept aM_found aM_came aM_got aM_held aM_off aM_comesUp aM_comesDown aM_path aM_gets aM_gotNow aM_bitsOf aM_sizeOf aM_number aM_passing vM_isKept vM_taped vM_leaked vM_keptAll vM_offAll vM_up vM_down vM_sharesUp vM_sharesDown vM_onUp vM_onDown vM_great vM_triedOff vM_triedLeaked vM_triedKept vM_fitting vM_firstSet vM_inAll vM_inAny vM_at vM_sort vM_from vM_value vM_fault cM_d cM_tape) H → va_D A (w_X8_basinHere cyI cyJ cyZ cyB cyO aM aM_d aM_tape aM_e aM_f aM_kept aM_found aM_came aM_got aM_held aM_off aM_comesUp aM_comesDown aM_path aM_gets aM_gotNow aM_bitsOf aM_sizeOf aM_number aM_passing vM_isKept vM_taped vM_leaked vM_keptAll vM_offAll vM_up vM_down vM_sharesUp vM_sharesDown vM_onUp vM_onDown vM_great vM_triedOff vM_triedLeaked vM_triedKept vM_fitting vM_firstSet vM_inAll vM_inAny vM_at vM_sort vM_from vM_value vM_fault cM_d cM_tape) → va_S A s.heap H locs → lv_has ls 5 [(2, .int y2), (0, .ref aM), (1, .int x1)] → f_X8_basinHere_J72 x1 vM_taped cM_tape y2 vM_at vM_sort vM_from vM_value vM_fault cM_d = some out → W p l e ({ frames := 3, cells := 0, slots := 0, locals := 65 } : Room) s m args below meth c H locs 0 0 Q (F0 m 72 ls []) := by
      intro y2 vM_at vM_sort vM_from vM_value vM_fault cM_d H locs ls hP hD hS hl h
      unfold f_X8_basinHere_J72 at h
      refine lv_iconst (v := 1) hx hb dX8_basinHere_72 (by decide) ?_
      refine lv_istore_n (lv' := [(3, .int (1 : Int32)), (2, .int y2), (0, .ref aM), (1, .int x1)]) hx hb dX8_basinHere_73 rfl hl (by decide) rfl (fun ls hl => ?_)
      refine lv_aload_n hx hb dX8_basinHere_74 rfl (lv_at hl 2 rfl) ?_
      refine lv_ldc2 (v := 101525) hx hb hown q4 dX8_basinHere_75 ?_
      obtain ⟨u3, hu3, h⟩ := bd_some h
      refine cl_Vi (rest := []) F hK hP hD hS hA hl (t_X8_isWord l D cyI cyJ cyZ cyB cyO aM aM_d aM_e aM_f aM_kept aM_found aM_tape aM_came aM_got aM_held aM_off aM_comesUp aM_comesDown aM_path aM_gets aM_gotNow aM_bitsOf aM_sizeOf aM_number aM_passing vM_isKept vM_taped vM_leaked vM_keptAll vM_offAll vM_up vM_down vM_sharesUp vM_sharesDown vM_onUp vM_onDown vM_great vM_triedOff vM_triedLeaked vM_triedKept vM_fitting vM_firstSet vM_inAll vM_inAny vM_at vM_sort vM_from vM_value vM_fault (101525 : Int64) u3 hu3) (cwV 1 hts gX8_basinHere_X8_isWord rfl rfl rfl (by decide +kernel) ⟨Nat.le_of_ble_eq_true rfl, Nat.le_of_ble_eq_true rfl⟩) 0 [0] [1, 0, 0] [] (w_X8_basinHere cyI cyJ cyZ cyB cyO aM aM_d aM_tape aM_e aM_f aM_kept aM_found aM_came aM_got aM_held aM_off aM_comesUp aM_comesDown aM_path aM_gets aM_gotNow aM_bitsOf aM_sizeOf aM_number aM_passing vM_isKept vM_taped vM_leaked vM_keptAll vM_offAll vM_up vM_down vM_sharesUp vM_sharesDown vM_onUp vM_onDown vM_great vM_triedOff vM_triedLeaked vM_triedKept vM_fitting vM_firstSet vM_inAll vM_inAny vM_at vM_sort vM_from vM_value vM_fault cM_d cM_tape) rfl rfl rfl rfl rfl (by decide +kernel) rfl rfl (Nat.le_of_ble_eq_true rfl) ⟨Nat.zero_le _, Nat.zero_le _⟩ dX8_basinHere_78 (fun H locs hP hD hS => ?_)
      have j96 : ∀ (y2 : Int32) (y3 : Int32) (vM_at : Int32) (vM_sort : Int32) (vM_from : Int32) (vM_value : Int64) (vM_fault : Int32) (cM_d : Nat → Int32) (H : Heap) (locs : List Loc) (ls : Array Slot), va_P D vwCl (w_X8_basinHere cyI cyJ cyZ cyB cyO aM aM_d aM_tape aM_e aM_f aM_kept aM_found aM_came aM_got aM_held aM_off aM_comesUp aM_comesDown aM_path aM_gets aM_gotNow aM_bitsOf aM_sizeOf aM_number aM_passing vM_isKept vM_taped vM_leaked vM_keptAll vM_offAll vM_up vM_down vM_sharesUp vM_sharesDown vM_onUp vM_onDown vM_great vM_triedOff vM_triedLeaked vM_triedKept vM_fitting vM_firstSet vM_inAll vM_inAny vM_at vM_sort vM_from vM_value vM_fault cM_d cM_tape) H → va_D A (w_X8_basinHere cyI cyJ cyZ cyB cyO aM aM_d aM_tape aM_e aM_f aM_kept aM_found aM_came aM_got aM_held aM_off aM_comesUp aM_comesDown aM_path aM_gets aM_gotNow aM_bitsOf aM_sizeOf aM_number aM_passing vM_isKept vM_taped vM_leaked vM_keptAll vM_offAll vM_up vM_down vM_sharesUp vM_sharesDown vM_onUp vM_onDown vM_great vM_triedOff vM_triedLeaked vM_triedKept vM_fitting vM_firstSet vM_inAll vM_inAny vM_at vM_sort vM_from vM_value vM_fault cM_d cM_tape) → va_S A s.heap H locs → lv_has ls 5 [(2, .int y2), (3, .int y3), (0, .ref aM), (1, .int x1)] → f_X8_basinHere_J96 x1 vM_taped cM_tape y2 y3 vM_at vM_sort vM_from vM_value vM_fault cM_d = some out → W p l e ({ frames := 3, cells := 0, slots := 0, locals := 65 } : Room) s m args below meth c H locs 0 0 Q (F0 m 96 ls []) := by
        intro y2 y3 vM_at vM_sort vM_from vM_value vM_fault cM_d H locs ls hP hD hS hl h
        unfold f_X8_basinHere_J96 at h
        refine lv_aload_n hx hb dX8_basinHere_96 rfl (lv_at hl 2 rfl) ?_
        refine va_get (D := D) (ci := 7) (v := .int vM_fault) (C := RX8) (T := TX8) (N := 43) hx hb hts in_X8 hown hK hP 0 rfl rfl 38 (by decide) q3 (fun _ h9 => h9) rfl dX8_basinHere_97 ?_
        refine lv_if_ge (tgt := 112) hx hb dX8_basinHere_100 (by decide) (fun c4 => ?_) (fun c4 => ?_)
        · have h := br_pos c4 h
          obtain rfl := Option.some.inj h
          exact hret _ _ _ _ hP hD hS dX8_basinHere_112 
        · have h := br_neg c4 h
          refine lv_aload_n hx hb dX8_basinHere_103 rfl (lv_at hl 2 rfl) ?_
          refine lv_iload_n hx hb dX8_basinHere_104 rfl (lv_at hl 3 rfl) ?_
          refine lv_iload_n hx hb dX8_basinHere_105 rfl (lv_at hl 0 rfl) ?_
          refine lv_iload_n hx hb dX8_basinHere_106 rfl (lv_at hl 1 rfl) ?_
          obtain ⟨u5, hu5, h⟩ := bd_some h
          refine cl_Vi (rest := []) F hK hP hD hS hA hl (t_X8_comes l D cyI cyJ cyZ cyB cyO aM aM_d aM_e aM_f aM_kept aM_found aM_tape aM_came aM_got aM_held aM_off aM_comesUp aM_comesDown aM_path aM_gets aM_gotNow aM_bitsOf aM_sizeOf aM_number aM_passing vM_isKept vM_taped vM_leaked vM_keptAll vM_offAll vM_up vM_down vM_sharesUp vM_sharesDown vM_onUp vM_onDown vM_great vM_triedOff vM_triedLeaked vM_triedKept vM_fitting vM_firstSet vM_inAll vM_inAny vM_at vM_sort vM_from vM_value vM_fault cM_d x1 y2 y3 u5 hu5) (cwV 3 hts gX8_basinHere_X8_comes rfl rfl rfl (by decide +kernel) ⟨Nat.le_of_ble_eq_true rfl, Nat.le_of_ble_eq_true rfl⟩) 0 [0, 1] [1, 2, 0] [] (w_X8_basinHere cyI cyJ cyZ cyB cyO aM aM_d aM_tape aM_e aM_f aM_kept aM_found aM_came aM_got aM_held aM_off aM_comesUp aM_comesDown aM_path aM_gets aM_gotNow aM_bitsOf aM_sizeOf aM_number aM_passing vM_isKept vM_taped vM_leaked vM_keptAll vM_offAll vM_up vM_down vM_sharesUp vM_sharesDown vM_onUp vM_onDown vM_great vM_triedOff vM_triedLeaked vM_triedKept vM_fitting vM_firstSet vM_inAll vM_inAny vM_at vM_sort vM_from vM_value vM_fault u5.2 cM_tape) rfl rfl rfl rfl rfl (by decide +kernel) rfl rfl (Nat.le_of_ble_eq_true rfl) ⟨Nat.zero_le _, Nat.zero_le _⟩ dX8_basinHere_107 (fun H locs hP hD hS => ?_)
          refine lv_istore (lv' := [(4, .int u5.1), (2, .int y2), (3, .int y3), (0, .ref aM), (1, .int x1)]) hx hb dX8_basinHere_110 hl (by decide) rfl (fun ls hl => ?_)
          obtain rfl := Option.some.inj h
          exact hret _ _ _ _ hP hD hS dX8_basinHere_112 
      refine lv_if_eq (tgt := 96) hx hb dX8_basinHere_81 (by decide) (fun c6 => ?_) (fun c6 => ?_)
      · have h := br_pos c6 h
        exact j96 y2 (1 : Int32) vM_at vM_sort vM_from vM_value vM_fault cM_d _ _ _ hP hD hS (lv_sub hl [1, 0, 2, 3] rfl) h
      · have h := br_neg c6 h
        refine lv_aload_n hx hb dX8_basinHere_84 rfl (lv_at hl 2 rfl) ?_
        obtain ⟨u7, hu7, h⟩ := bd_some h
        refine cl_Vv (rest := []) F hK hP hD hS hA hl (t_X8_next l D cyI cyJ cyZ cyB cyO aM aM_tape aM_d aM_e aM_f aM_kept aM_found aM_came aM_got aM_held aM_off aM_comesUp aM_comesDown aM_path aM_gets aM_gotNow aM_bitsOf aM_sizeOf aM_number aM_passing vM_isKept vM_taped vM_leaked vM_keptAll vM_offAll vM_up vM_down vM_sharesUp vM_sharesDown vM_onUp vM_onDown vM_great vM_triedOff vM_triedLeaked vM_triedKept vM_fitting vM_firstSet vM_inAll vM_inAny vM_at vM_sort vM_from vM_value vM_fault cM_tape u7 hu7) (cwV 0 hts gX8_basinHere_X8_next rfl rfl rfl (by decide +kernel) ⟨Nat.le_of_ble_eq_true rfl, Nat.le_of_ble_eq_true rfl⟩) 0 [0, 2] [1, 0, 2] [] (w_X8_basinHere cyI cyJ cyZ cyB cyO aM aM_d aM_tape aM_e aM_f aM_kept aM_found aM_came aM_got aM_held aM_off aM_comesUp aM_comesDown aM_path aM_gets aM_gotNow aM_bitsOf aM_sizeOf aM_number aM_passing vM_isKept vM_taped vM_leaked vM_keptAll vM_offAll vM_up vM_down vM_sharesUp vM_sharesDown vM_onUp vM_onDown vM_great vM_triedOff vM_triedLeaked vM_triedKept vM_fitting vM_firstSet vM_inAll vM_inAny u7.1 u7.2.1 u7.2.2.1 u7.2.2.2 vM_fault cM_d cM_tape) rfl rfl rfl rfl rfl (by decide +kernel) rfl rfl (Nat.le_of_ble_eq_true rfl) ⟨Nat.zero_le _, Nat.zero_le _⟩ dX8_basinHere_85 (fun H locs hP hD hS => ?_)
        refine lv_aload_n hx hb dX8_basinHere_88 rfl (lv_at hl 2 rfl) ?_
        refine lv_iconst (v := 1) hx hb dX8_basinHere_89 (by decide) ?_
        refine lv_bipush (v := 9) hx hb dX8_basinHere_90 (by decide) ?_
        obtain ⟨u8, hu8, h⟩ := bd_some h
        refine cl_Vi (rest := []) F hK hP hD hS hA hl (t_X8_numberHere l D cyI cyJ cyZ cyB cyO aM aM_tape aM_d aM_e aM_f aM_kept aM_found aM_came aM_got aM_held aM_off aM_comesUp aM_comesDown aM_path aM_gets aM_gotNow aM_bitsOf aM_sizeOf aM_number aM_passing vM_isKept vM_taped vM_leaked vM_keptAll vM_offAll vM_up vM_down vM_sharesUp vM_sharesDown vM_onUp vM_onDown vM_great vM_triedOff vM_triedLeaked vM_triedKept vM_fitting vM_firstSet vM_inAll vM_inAny u7.1 u7.2.1 u7.2.2.1 u7.2.2.2 vM_fault cM_tape (1 : Int32) (9 : Int32) u8 hu8) (cwV 2 hts gX8_basinHere_X8_numberHere rfl rfl rfl (by decide +kernel) ⟨Nat.le_of_ble_eq_true rfl, Nat.le_of_ble_eq_true rfl⟩) 0 [0, 2] [1, 0, 2] [] (w_X8_basinHere cyI cyJ cyZ cyB cyO aM aM_d aM_tape aM_e aM_f aM_kept aM_found aM_came aM_got aM_held aM_off aM_comesUp aM_comesDown aM_path aM_gets aM_gotNow aM_bitsOf aM_sizeOf aM_number aM_passing vM_isKept vM_taped vM_leaked vM_keptAll vM_offAll vM_up vM_down vM_sharesUp vM_sharesDown vM_onUp vM_onDown vM_great vM_triedOff vM_triedLeaked vM_triedKept vM_fitting vM_firstSet vM_inAll vM_inAny u8.2.1 u8.2.2.1 u8.2.2.2.1 u8.2.2.2.2.1 u8.2.2.2.2.2 cM_d cM_tape) rfl rfl rfl rfl rfl (by decide +kernel) rfl rfl (Nat.le_of_ble_eq_true rfl) ⟨Nat.zero_le _, Nat.zero_le _⟩ dX8_basinHere_92 (fun H locs hP hD hS => ?_)
        refine lv_istore_n (lv' := [(3, .int u8.1), (2, .int y2), (0, .ref aM), (1, .int x1)]) hx hb dX8_basinHere_95 rfl hl (by decide) rfl (fun ls hl => ?_)
        exact j96 y2 u8.1 u8.2.1 u8.2.2.1 u8.2.2.2.1 u8.2.2.2.2.1 u8.2.2.2.2.2 cM_d _ _ _ hP hD hS (lv_sub hl [1, 0, 2, 3] rfl) h
    refine lv_if_le (tgt := 72) hx hb dX8_basinHere_28 (by decide) (fun c9 => ?_) (fun c9 => ?_)
    · have h := br_pos c9 h
      exact j72 (-1 : Int32) u2.1 u2.2.1 u2.2.2.1 u2.2.2.2 vM_fault cM_d _ _ _ hP hD hS (lv_sub hl [0, 1, 2] rfl) h
    · have h := br_neg c9 h
      refine lv_aload_n hx hb dX8_basinHere_31 rfl (lv_at hl 1 rfl) ?_
      refine lv_ldc2 (v := 1170473) hx hb hown q2 dX8_basinHere_32 ?_
      obtain ⟨u10, hu10, h⟩ := bd_some h
      refine cl_Vi (rest := []) F hK hP hD hS hA hl (t_X8_isWord l D cyI cyJ cyZ cyB cyO aM aM_d aM_e aM_f aM_kept aM_found aM_tape aM_came aM_got aM_held aM_off aM_comesUp aM_comesDown aM_path aM_gets aM_gotNow aM_bitsOf aM_sizeOf aM_number aM_passing vM_isKept vM_taped vM_leaked vM_keptAll vM_offAll vM_up vM_down vM_sharesUp vM_sharesDown vM_onUp vM_onDown vM_great vM_triedOff vM_triedLeaked vM_triedKept vM_fitting vM_firstSet vM_inAll vM_inAny u2.1 u2.2.1 u2.2.2.1 u2.2.2.2 vM_fault (1170473 : Int64) u10 hu10) (cwV 1 hts gX8_basinHere_X8_isWord rfl rfl rfl (by decide +kernel) ⟨Nat.le_of_ble_eq_true rfl, Nat.le_of_ble_eq_true rfl⟩) 0 [0] [1, 0, 0] [] (w_X8_basinHere cyI cyJ cyZ cyB cyO aM aM_d aM_tape aM_e aM_f aM_kept aM_found aM_came aM_got aM_held aM_off aM_comesUp aM_comesDown aM_path aM_gets aM_gotNow aM_bitsOf aM_sizeOf aM_number aM_passing vM_isKept vM_taped vM_leaked vM_keptAll vM_offAll vM_up vM_down vM_sharesUp vM_sharesDown vM_onUp vM_onDown vM_great vM_triedOff vM_triedLeaked vM_triedKept vM_fitting vM_firstSet vM_inAll vM_inAny u2.1 u2.2.1 u2.2.2.1 u2.2.2.2 vM_fault cM_d cM_tape) rfl rfl rfl rfl rfl (by decide +kernel) rfl rfl (Nat.le_of_ble_eq_true rfl) ⟨Nat.zero_le _, Nat.zero_le _⟩ dX8_basinHere_35 (fun H locs hP hD hS => ?_)
      refine lv_if_ne (tgt := 46) hx hb dX8_basinHere_38 (by decide) (fun c11 => ?_) (fun c11 => ?_)
      · have h := br_neg c11 h
        refine lv_aload_n hx hb dX8_basinHere_46 rfl (lv_at hl 1 rfl) ?_
        obtain ⟨u12, hu12, h⟩ := bd_some h
        refine cl_Vv (rest := []) F hK hP hD hS hA hl (t_X8_next l D cyI cyJ cyZ cyB cyO aM aM_tape aM_d aM_e aM_f aM_kept aM_found aM_came aM_got aM_held aM_off aM_comesUp aM_comesDown aM_path aM_gets aM_gotNow aM_bitsOf aM_sizeOf aM_number aM_passing vM_isKept vM_taped vM_leaked vM_keptAll vM_offAll vM_up vM_down vM_sharesUp vM_sharesDown vM_onUp vM_onDown vM_great vM_triedOff vM_triedLeaked vM_triedKept vM_fitting vM_firstSet vM_inAll vM_inAny u2.1 u2.2.1 u2.2.2.1 u2.2.2.2 vM_fault cM_tape u12 hu12) (cwV 0 hts gX8_basinHere_X8_next rfl rfl rfl (by decide +kernel) ⟨Nat.le_of_ble_eq_true rfl, Nat.le_of_ble_eq_true rfl⟩) 0 [0, 2] [1, 0, 2] [] (w_X8_basinHere cyI cyJ cyZ cyB cyO aM aM_d aM_tape aM_e aM_f aM_kept aM_found aM_came aM_got aM_held aM_off aM_comesUp aM_comesDown aM_path aM_gets aM_gotNow aM_bitsOf aM_sizeOf aM_number aM_passing vM_isKept vM_taped vM_leaked vM_keptAll vM_offAll vM_up vM_down vM_sharesUp vM_sharesDown vM_onUp vM_onDown vM_great vM_triedOff vM_triedLeaked vM_triedKept vM_fitting vM_firstSet vM_inAll vM_inAny u12.1 u12.2.1 u12.2.2.1 u12.2.2.2 vM_fault cM_d cM_tape) rfl rfl rfl rfl rfl (by decide +kernel) rfl rfl (Nat.le_of_ble_eq_true rfl) ⟨Nat.zero_le _, Nat.zero_le _⟩ dX8_basinHere_47 (fun H locs hP hD hS => ?_)
        refine lv_aload_n hx hb dX8_basinHere_50 rfl (lv_at hl 1 rfl) ?_
        refine lv_iconst (v := 0) hx hb dX8_basinHere_51 (by decide) ?_
        refine lv_aload_n hx hb dX8_basinHere_52 rfl (lv_at hl 1 rfl) ?_
        refine va_get (D := D) (ci := 7) (v := .ref aM_d) (C := RX8) (T := TX8) (N := 43) hx hb hts in_X8 hown hK hP 0 rfl rfl 0 (by decide) q1 (fun _ h9 => h9) rfl dX8_basinHere_53 ?_
        refine lv_iconst (v := 0) hx hb dX8_basinHere_56 (by decide) ?_
        refine va_iald hx hb hK hP 1 0 rfl rfl (by unfold vp_in; decide) dX8_basinHere_57 ?_
        refine lv_iconst (v := 1) hx hb dX8_basinHere_58 (by decide) ?_
        refine lv_isub hx hb dX8_basinHere_59 ?_
        obtain ⟨u13, hu13, h⟩ := bd_some h
        refine cl_Vi (rest := []) F hK hP hD hS hA hl (t_X8_numberHere l D cyI cyJ cyZ cyB cyO aM aM_tape aM_d aM_e aM_f aM_kept aM_found aM_came aM_got aM_held aM_off aM_comesUp aM_comesDown aM_path aM_gets aM_gotNow aM_bitsOf aM_sizeOf aM_number aM_passing vM_isKept vM_taped vM_leaked vM_keptAll vM_offAll vM_up vM_down vM_sharesUp vM_sharesDown vM_onUp vM_onDown vM_great vM_triedOff vM_triedLeaked vM_triedKept vM_fitting vM_firstSet vM_inAll vM_inAny u12.1 u12.2.1 u12.2.2.1 u12.2.2.2 vM_fault cM_tape (0 : Int32) ((cM_d (0 : Int32).toNatClampNeg) - (1 : Int32)) u13 hu13) (cwV 2 hts gX8_basinHere_X8_numberHere rfl rfl rfl (by decide +kernel) ⟨Nat.le_of_ble_eq_true rfl, Nat.le_of_ble_eq_true rfl⟩) 0 [0, 2] [1, 0, 2] [] (w_X8_basinHere cyI cyJ cyZ cyB cyO aM aM_d aM_tape aM_e aM_f aM_kept aM_found aM_came aM_got aM_held aM_off aM_comesUp aM_comesDown aM_path aM_gets aM_gotNow aM_bitsOf aM_sizeOf aM_number aM_passing vM_isKept vM_taped vM_leaked vM_keptAll vM_offAll vM_up vM_down vM_sharesUp vM_sharesDown vM_onUp vM_onDown vM_great vM_triedOff vM_triedLeaked vM_triedKept vM_fitting vM_firstSet vM_inAll vM_inAny u13.2.1 u13.2.2.1 u13.2.2.2.1 u13.2.2.2.2.1 u13.2.2.2.2.2 cM_d cM_tape) rfl rfl rfl rfl rfl (by decide +kernel) rfl rfl (Nat.le_of_ble_eq_true rfl) ⟨Nat.zero_le _, Nat.zero_le _⟩ dX8_basinHere_60 (fun H locs hP hD hS => ?_)
        refine lv_istore_n (lv' := [(2, .int u13.1), (0, .ref aM), (1, .int x1)]) hx hb dX8_basinHere_63 rfl hl (by decide) rfl (fun ls hl => ?_)
        refine lv_aload_n hx hb dX8_basinHere_64 rfl (lv_at hl 1 rfl) ?_
        refine va_get (D := D) (ci := 7) (v := .int u13.2.2.2.2.2) (C := RX8) (T := TX8) (N := 43) hx hb hts in_X8 hown hK hP 0 rfl rfl 38 (by decide) q3 (fun _ h9 => h9) rfl dX8_basinHere_65 ?_
        refine lv_if_lt (tgt := 72) hx hb dX8_basinHere_68 (by decide) (fun c14 => ?_) (fun c14 => ?_)
        · have h := br_pos c14 h
          exact j72 u13.1 u13.2.1 u13.2.2.1 u13.2.2.2.1 u13.2.2.2.2.1 u13.2.2.2.2.2 cM_d _ _ _ hP hD hS (lv_sub hl [0, 1, 2] rfl) h
        · have h := br_neg c14 h
          obtain rfl := Option.some.inj h
          exact hret _ _ _ _ hP hD hS dX8_basinHere_71 
      · have h := br_pos c11 h
        refine lv_aload_n hx hb dX8_basinHere_41 rfl (lv_at hl 1 rfl) ?_
        obtain ⟨u15, hu15, h⟩ := bd_some h
        refine cl_Vv (rest := []) F hK hP hD hS hA hl (t_X8_wrongHere l D cyI cyJ cyZ cyB cyO aM aM_d aM_e aM_f aM_kept aM_found aM_tape aM_came aM_got aM_held aM_off aM_comesUp aM_comesDown aM_path aM_gets aM_gotNow aM_bitsOf aM_sizeOf aM_number aM_passing vM_isKept vM_taped vM_leaked vM_keptAll vM_offAll vM_up vM_down vM_sharesUp vM_sharesDown vM_onUp vM_onDown vM_great vM_triedOff vM_triedLeaked vM_triedKept vM_fitting vM_firstSet vM_inAll vM_inAny u2.1 u2.2.1 u2.2.2.1 u2.2.2.2 vM_fault u15 hu15) (cwV 0 hts gX8_basinHere_X8_wrongHere rfl rfl rfl (by decide +kernel) ⟨Nat.le_of_ble_eq_true rfl, Nat.le_of_ble_eq_true rfl⟩) 0 [0] [1, 0, 0] [] (w_X8_basinHere cyI cyJ cyZ cyB cyO aM aM_d aM_tape aM_e aM_f aM_kept aM_found aM_came aM_got aM_held aM_off aM_comesUp aM_comesDown aM_path aM_gets aM_gotNow aM_bitsOf aM_sizeOf aM_number aM_passing vM_isKept vM_taped vM_leaked vM_keptAll vM_offAll vM_up vM_down vM_sharesUp vM_sharesDown vM_onUp vM_onDown vM_great vM_triedOff vM_triedLeaked vM_triedKept vM_fitting vM_firstSet vM_inAll vM_inAny u2.1 u2.2.1 u2.2.2.1 u2.2.2.2 u15 cM_d cM_tape) rfl rfl rfl rfl rfl (by decide +kernel) rfl rfl (Nat.le_of_ble_eq_true rfl) ⟨Nat.zero_le _, Nat.zero_le _⟩ dX8_basinHere_42 (fun H locs hP hD hS => ?_)
        obtain rfl := Option.some.inj h
        exact hret _ _ _ _ hP hD hS dX8_basinHere_45 
  · have h := br_pos c1 h
    refine lv_aload_n hx hb dX8_basinHere_11 rfl (lv_at hl 0 rfl) ?_
    obtain ⟨u16, hu16, h⟩ := bd_some h
    refine cl_Vv (rest := []) F hK hP hD hS hA hl (t_X8_wrongHere l D cyI cyJ cyZ cyB cyO aM aM_d aM_e aM_f aM_kept aM_found aM_tape aM_came aM_got aM_held aM_off aM_comesUp aM_comesDown aM_path aM_gets aM_gotNow aM_bitsOf aM_sizeOf aM_number aM_passing vM_isKept vM_taped vM_leaked vM_keptAll vM_offAll vM_up vM_down vM_sharesUp vM_sharesDown vM_onUp vM_onDown vM_great vM_triedOff vM_triedLeaked vM_triedKept vM_fitting vM_firstSet vM_inAll vM_inAny vM_at vM_sort vM_from vM_value vM_fault u16 hu16) (cwV 0 hts gX8_basinHere_X8_wrongHere rfl rfl rfl (by decide +kernel) ⟨Nat.le_of_ble_eq_true rfl, Nat.le_of_ble_eq_true rfl⟩) 0 [0] [1, 0, 0] [] (w_X8_basinHere cyI cyJ cyZ cyB cyO aM aM_d aM_tape aM_e aM_f aM_kept aM_found aM_came aM_got aM_held aM_off aM_comesUp aM_comesDown aM_path aM_gets aM_gotNow aM_bitsOf aM_sizeOf aM_number aM_passing vM_isKept vM_taped vM_leaked vM_keptAll vM_offAll vM_up vM_down vM_sharesUp vM_sharesDown vM_onUp vM_onDown vM_great vM_triedOff vM_triedLeaked vM_triedKept vM_fitting vM_firstSet vM_inAll vM_inAny vM_at vM_sort vM_from vM_value u16 cM_d cM_tape) rfl rfl rfl rfl rfl (by decide +kernel) rfl rfl (Nat.le_of_ble_eq_true rfl) ⟨Nat.zero_le _, Nat.zero_le _⟩ dX8_basinHere_12 (fun H locs hP hD hS => ?_)
    obtain rfl := Option.some.inj h
    exact hret _ _ _ _ hP hD hS dX8_basinHere_15 
/-! ===== X8_item ===== -/
def w_X8_item (cyI cyJ cyZ cyB cyO : ClassId) (aM aM_tape aM_d aM_e aM_f aM_kept aM_found aM_came aM_got aM_held aM_off aM_comesUp aM_comesDown aM_path aM_gets aM_gotNow aM_bitsOf aM_sizeOf aM_number aM_passing : Nat) (vM_isKept : Int32) (vM_taped : Int32) (vM_leaked : Int32) (vM_keptAll : Int32) (vM_offAll : Int32) (vM_up : Int64) (vM_down : Int64) (vM_sharesUp : Int64) (vM_sharesDown : Int64) (vM_onUp : Int64) (vM_onDown : Int64) (vM_great : Int32) (vM_triedOff : Int32) (vM_triedLeaked : Int32) (vM_triedKept : Int32) (vM_fitting : Int32) (vM_firstSet : Int32) (vM_inAll : Int32) (vM_inAny : Int32) (vM_at : Int32) (vM_sort : Int32) (vM_from : Int32) (vM_value : Int64) (vM_fault : Int32) (cM_tape : Nat → Int32) (cM_d : Nat → Int32) : va_W := [(aM, .inr (7, [.ref aM_d, .ref aM_e, .ref aM_f, .ref aM_kept, .int vM_isKept, .ref aM_found, .ref aM_tape, .int vM_taped, .ref aM_came, .ref aM_got, .ref aM_held, .ref aM_off, .int vM_leaked, .int vM_keptAll, .int vM_offAll, .ref aM_comesUp, .ref aM_comesDown, .long vM_up, .long vM_down, .long vM_sharesUp, .long vM_sharesDown, .long vM_onUp, .long vM_onDown, .int vM_great, .ref aM_path, .ref aM_gets, .int vM_triedOff, .int vM_triedLeaked, .int vM_triedKept, .ref aM_gotNow, .int vM_fitting, .int vM_firstSet, .int vM_inAll, .int vM_inAny, .int vM_at, .int vM_sort, .int vM_from, .long vM_value, .int vM_fault, .ref aM_bitsOf, .ref aM_sizeOf, .ref aM_number, .ref aM_passing])), (aM_tape, .inl (cyB, 120, .inl cM_tape)), (aM_d, .inl (cyI, 64, .inl cM_d))]
set_option maxHeartbeats 4000000 in
set_option maxRecDepth 100000 in
theorem t_X8_item (l : Launch) (D : va_G) (cyI cyJ cyZ cyB cyO : ClassId) (aM aM_tape aM_d aM_e aM_f aM_kept aM_found aM_came aM_got aM_held aM_off aM_comesUp aM_comesDown aM_path aM_gets aM_gotNow aM_bitsOf aM_sizeOf aM_number aM_passing : Nat) (vM_isKept : Int32) (vM_taped : Int32) (vM_leaked : Int32) (vM_keptAll : Int32) (vM_offAll : Int32) (vM_up : Int64) (vM_down : Int64) (vM_sharesUp : Int64) (vM_sharesDown : Int64) (vM_onUp : Int64) (vM_onDown : Int64) (vM_great : Int32) (vM_triedOff : Int32) (vM_triedLeaked : Int32) (vM_triedKept : Int32) (vM_fitting : Int32) (vM_firstSet : Int32) (vM_inAll : Int32) (vM_inAny : Int32) (vM_at : Int32) (vM_sort : Int32) (vM_from : Int32) (vM_value : Int64) (vM_fault : Int32) (cM_tape : Nat → Int32) (cM_d : Nat → Int32) (out : Int32 × Int32 × Int32 × Int64 × Int32 × (Nat → Int32)) (h : f_X8_item vM_taped vM_at vM_sort vM_from vM_value vM_fault cM_tape cM_d = some out) : Mv l yX8_item wsX8_item ({ frames := 4, cells := 0, slots := 0, locals := 89 } : Room) D (tyA cyI cyJ cyZ cyB cyO) [.ref aM] (w_X8_item cyI cyJ cyZ cyB cyO aM aM_tape aM_d aM_e aM_f aM_kept aM_found aM_came aM_got aM_held aM_off aM_comesUp aM_comesDown aM_path aM_gets aM_gotNow aM_bitsOf aM_sizeOf aM_number aM_passing vM_isKept vM_taped vM_leaked vM_keptAll vM_offAll vM_up vM_down vM_sharesUp vM_sharesDown vM_onUp vM_onDown vM_great vM_triedOff vM_triedLeaked vM_triedKept vM_fitting vM_firstSet vM_inAll vM_inAny vM_at vM_sort vM_from vM_value vM_fault cM_tape cM_d) (w_X8_item cyI cyJ cyZ cyB cyO aM aM_tape aM_d aM_e aM_f aM_kept aM_found aM_came aM_got aM_held aM_off aM_comesUp aM_comesDown aM_path aM_gets aM_gotNow aM_bitsOf aM_sizeOf aM_number aM_passing vM_isKept vM_taped vM_leaked vM_keptAll vM_offAll vM_up vM_down vM_sharesUp vM_sharesDown vM_onUp vM_onDown vM_great vM_triedOff vM_triedLeaked vM_triedKept vM_fitting vM_firstSet vM_inAll vM_inAny out.1 out.2.1 out.2.2.1 out.2.2.2.1 out.2.2.2.2.1 cM_tape out.2.2.2.2.2) := by
  refine Mv.mk (cc := cX8_item) (maxL := 3) (own := RX8) (by decide) rfl rfl (Nat.le_of_ble_eq_true rfl) ?_
  intro p e s m args below meth c A Q F hK hP hD hA hret ls hl
  obtain ⟨hx, hb, hml, hown, hts⟩ := id F
  have hS : va_S A s.heap s.heap [] := va_S.rf
  have hl : lv_has ls 3 [(0, .ref aM)] := hl
  have in_X8 : ∀ w ∈ wsX80, w ∈ wsX8_item := by decide +kernel
  have q5 := hts (Cond.methodLink RX8 340 yX8_kindHere) (List.mem_of_getElem? (i := 5) rfl)
  have q1 := hts (Cond.constantLong RX8 346 (281493529)) (List.mem_of_getElem? (i := 1) rfl)
  have q17 := hts (Cond.methodLink RX8 311 yX8_isWord) (List.mem_of_getElem? (i := 17) rfl)
  have q29 := hts (Cond.methodLink RX8 327 yX8_wrongHere) (List.mem_of_getElem? (i := 29) rfl)
  have q34 := hts (Cond.methodLink RX8 330 yX8_next) (List.mem_of_getElem? (i := 34) rfl)
  have q2 := hts (Cond.constant RX8 193 (99999)) (List.mem_of_getElem? (i := 2) rfl)
  have q56 := hts (Cond.methodLink RX8 335 yX8_numberHere) (List.mem_of_getElem? (i := 56) rfl)
  have q3 := hts (Cond.fieldLink RX8 7 "ThirdFountainModel" "d" "[I") (List.mem_of_getElem? (i := 3) rfl)
  have q4 := hts (Cond.fieldLink RX8 306 "ThirdFountainModel" "fault" "I") (List.mem_of_getElem? (i := 4) rfl)
  have q23 := hts (Cond.methodLink RX8 343 yX8_basinHere) (List.mem_of_getElem? (i := 23) rfl)
  unfold f_X8_item at h
  refine lv_aload_n hx hb dX8_item_0 rfl (lv_at hl 0 rfl) ?_
  obtain ⟨u1, hu1, h⟩ := bd_some h
  refine cl_Vi (rest := []) F hK hP hD hS hA hl (t_X8_kindHere l D cyI cyJ cyZ cyB cyO aM aM_d aM_e aM_f aM_kept aM_found aM_tape aM_came aM_got aM_held aM_off aM_comesUp aM_comesDown aM_path aM_gets aM_gotNow aM_bitsOf aM_sizeOf aM_number aM_passing vM_isKept vM_taped vM_leaked vM_keptAll vM_offAll vM_up vM_down vM_sharesUp vM_sharesDown vM_onUp vM_onDown vM_great vM_triedOff vM_triedLeaked vM_triedKept vM_fitting vM_firstSet vM_inAll vM_inAny vM_at vM_sort vM_from vM_value vM_fault u1 hu1) (cwV 0 hts gX8_item_X8_kindHere rfl rfl rfl (by decide +kernel) ⟨Nat.le_of_ble_eq_true rfl, Nat.le_of_ble_eq_true rfl⟩) 0 [0] [1, 0, 0] [] (w_X8_item cyI cyJ cyZ cyB cyO aM aM_tape aM_d aM_e aM_f aM_kept aM_found aM_came aM_got aM_held aM_off aM_comesUp aM_comesDown aM_path aM_gets aM_gotNow aM_bitsOf aM_sizeOf aM_number aM_passing vM_isKept vM_taped vM_leaked vM_keptAll vM_offAll vM_up vM_down vM_sharesUp vM_sharesDown vM_onUp vM_onDown vM_great vM_triedOff vM_triedLeaked vM_triedKept vM_fitting vM_firstSet vM_inAll vM_inAny vM_at vM_sort vM_from vM_value vM_fault cM_tape cM_d) rfl rfl rfl rfl rfl (by decide +kernel) rfl rfl (Nat.le_of_ble_eq_true rfl) ⟨Nat.zero_le _, Nat.zero_le _⟩ dX8_item_1 (fun H locs hP hD hS => ?_)
  refine lv_istore_n (lv' := [(1, .int u1), (0, .ref aM)]) hx hb dX8_item_4 rfl hl (by decide) rfl (fun ls hl => ?_)
  refine lv_iload_n hx hb dX8_item_5 rfl (lv_at hl 0 rfl) ?_
  refine lv_if_lt (tgt := 17) hx hb dX8_item_6 (by decide) (fun c2 => ?_) (fun c2 => ?_)
  · have h := br_pos c2 h
    refine lv_aload_n hx hb dX8_item_17 rfl (lv_at hl 1 rfl) ?_
    refine lv_ldc2 (v := 281493529) hx hb hown q1 dX8_item_18 ?_
    obtain ⟨u3, hu3, h⟩ := bd_some h
    refine cl_Vi (rest := []) F hK hP hD hS hA hl (t_X8_isWord l D cyI cyJ cyZ cyB cyO aM aM_d aM_e aM_f aM_kept aM_found aM_tape aM_came aM_got aM_held aM_off aM_comesUp aM_comesDown aM_path aM_gets aM_gotNow aM_bitsOf aM_sizeOf aM_number aM_passing vM_isKept vM_taped vM_leaked vM_keptAll vM_offAll vM_up vM_down vM_sharesUp vM_sharesDown vM_onUp vM_onDown vM_great vM_triedOff vM_triedLeaked vM_triedKept vM_fitting vM_firstSet vM_inAll vM_inAny vM_at vM_sort vM_from vM_value vM_fault (281493529 : Int64) u3 hu3) (cwV 1 hts gX8_item_X8_isWord rfl rfl rfl (by decide +kernel) ⟨Nat.le_of_ble_eq_true rfl, Nat.le_of_ble_eq_true rfl⟩) 0 [0] [1, 0, 0] [] (w_X8_item cyI cyJ cyZ cyB cyO aM aM_tape aM_d aM_e aM_f aM_kept aM_found aM_came aM_got aM_held aM_off aM_comesUp aM_comesDown aM_path aM_gets aM_gotNow aM_bitsOf aM_sizeOf aM_number aM_passing vM_isKept vM_taped vM_leaked vM_keptAll vM_offAll vM_up vM_down vM_sharesUp vM_sharesDown vM_onUp vM_onDown vM_great vM_triedOff vM_triedLeaked vM_triedKept vM_fitting vM_firstSet vM_inAll vM_inAny vM_at vM_sort vM_from vM_value vM_fault cM_tape cM_d) rfl rfl rfl rfl rfl (by decide +kernel) rfl rfl (Nat.le_of_ble_eq_true rfl) ⟨Nat.zero_le _, Nat.zero_le _⟩ dX8_item_21 (fun H locs hP hD hS => ?_)
    refine lv_if_eq (tgt := 65) hx hb dX8_item_24 (by decide) (fun c4 => ?_) (fun c4 => ?_)
    · have h := br_pos c4 h
      refine lv_aload_n hx hb dX8_item_65 rfl (lv_at hl 1 rfl) ?_
      obtain ⟨u5, hu5, h⟩ := bd_some h
      refine cl_Vv (rest := []) F hK hP hD hS hA hl (t_X8_wrongHere l D cyI cyJ cyZ cyB cyO aM aM_d aM_e aM_f aM_kept aM_found aM_tape aM_came aM_got aM_held aM_off aM_comesUp aM_comesDown aM_path aM_gets aM_gotNow aM_bitsOf aM_sizeOf aM_number aM_passing vM_isKept vM_taped vM_leaked vM_keptAll vM_offAll vM_up vM_down vM_sharesUp vM_sharesDown vM_onUp vM_onDown vM_great vM_triedOff vM_triedLeaked vM_triedKept vM_fitting vM_firstSet vM_inAll vM_inAny vM_at vM_sort vM_from vM_value vM_fault u5 hu5) (cwV 0 hts gX8_item_X8_wrongHere rfl rfl rfl (by decide +kernel) ⟨Nat.le_of_ble_eq_true rfl, Nat.le_of_ble_eq_true rfl⟩) 0 [0] [1, 0, 0] [] (w_X8_item cyI cyJ cyZ cyB cyO aM aM_tape aM_d aM_e aM_f aM_kept aM_found aM_came aM_got aM_held aM_off aM_comesUp aM_comesDown aM_path aM_gets aM_gotNow aM_bitsOf aM_sizeOf aM_number aM_passing vM_isKept vM_taped vM_leaked vM_keptAll vM_offAll vM_up vM_down vM_sharesUp vM_sharesDown vM_onUp vM_onDown vM_great vM_triedOff vM_triedLeaked vM_triedKept vM_fitting vM_firstSet vM_inAll vM_inAny vM_at vM_sort vM_from vM_value u5 cM_tape cM_d) rfl rfl rfl rfl rfl (by decide +kernel) rfl rfl (Nat.le_of_ble_eq_true rfl) ⟨Nat.zero_le _, Nat.zero_le _⟩ dX8_item_66 (fun H locs hP hD hS => ?_)
      obtain rfl := Option.some.inj h
      exact hret _ _ _ _ hP hD hS dX8_item_69 
    · have h := br_neg c4 h
      refine lv_aload_n hx hb dX8_item_27 rfl (lv_at hl 1 rfl) ?_
      obtain ⟨u6, hu6, h⟩ := bd_some h
      refine cl_Vv (rest := []) F hK hP hD hS hA hl (t_X8_next l D cyI cyJ cyZ cyB cyO aM aM_tape aM_d aM_e aM_f aM_kept aM_found aM_came aM_got aM_held aM_off aM_comesUp aM_comesDown aM_path aM_gets aM_gotNow aM_bitsOf aM_sizeOf aM_number aM_passing vM_isKept vM_taped vM_leaked vM_keptAll vM_offAll vM_up vM_down vM_sharesUp vM_sharesDown vM_onUp vM_onDown vM_great vM_triedOff vM_triedLeaked vM_triedKept vM_fitting vM_firstSet vM_inAll vM_inAny vM_at vM_sort vM_from vM_value vM_fault cM_tape u6 hu6) (cwV 0 hts gX8_item_X8_next rfl rfl rfl (by decide +kernel) ⟨Nat.le_of_ble_eq_true rfl, Nat.le_of_ble_eq_true rfl⟩) 0 [0, 1] [1, 2, 0] [] (w_X8_item cyI cyJ cyZ cyB cyO aM aM_tape aM_d aM_e aM_f aM_kept aM_found aM_came aM_got aM_held aM_off aM_comesUp aM_comesDown aM_path aM_gets aM_gotNow aM_bitsOf aM_sizeOf aM_number aM_passing vM_isKept vM_taped vM_leaked vM_keptAll vM_offAll vM_up vM_down vM_sharesUp vM_sharesDown vM_onUp vM_onDown vM_great vM_triedOff vM_triedLeaked vM_triedKept vM_fitting vM_firstSet vM_inAll vM_inAny u6.1 u6.2.1 u6.2.2.1 u6.2.2.2 vM_fault cM_tape cM_d) rfl rfl rfl rfl rfl (by decide +kernel) rfl rfl (Nat.le_of_ble_eq_true rfl) ⟨Nat.zero_le _, Nat.zero_le _⟩ dX8_item_28 (fun H locs hP hD hS => ?_)
      refine lv_aload_n hx hb dX8_item_31 rfl (lv_at hl 1 rfl) ?_
      refine lv_iconst (v := 0) hx hb dX8_item_32 (by decide) ?_
      refine lv_ldc (v := 99999) hx hb hown q2 dX8_item_33 ?_
      obtain ⟨u7, hu7, h⟩ := bd_some h
      refine cl_Vi (rest := []) F hK hP hD hS hA hl (t_X8_numberHere l D cyI cyJ cyZ cyB cyO aM aM_tape aM_d aM_e aM_f aM_kept aM_found aM_came aM_got aM_held aM_off aM_comesUp aM_comesDown aM_path aM_gets aM_gotNow aM_bitsOf aM_sizeOf aM_number aM_passing vM_isKept vM_taped vM_leaked vM_keptAll vM_offAll vM_up vM_down vM_sharesUp vM_sharesDown vM_onUp vM_onDown vM_great vM_triedOff vM_triedLeaked vM_triedKept vM_fitting vM_firstSet vM_inAll vM_inAny u6.1 u6.2.1 u6.2.2.1 u6.2.2.2 vM_fault cM_tape (0 : Int32) (99999 : Int32) u7 hu7) (cwV 2 hts gX8_item_X8_numberHere rfl rfl rfl (by decide +kernel) ⟨Nat.le_of_ble_eq_true rfl, Nat.le_of_ble_eq_true rfl⟩) 0 [0, 1] [1, 2, 0] [] (w_X8_item cyI cyJ cyZ cyB cyO aM aM_tape aM_d aM_e aM_f aM_kept aM_found aM_came aM_got aM_held aM_off aM_comesUp aM_comesDown aM_path aM_gets aM_gotNow aM_bitsOf aM_sizeOf aM_number aM_passing vM_isKept vM_taped vM_leaked vM_keptAll vM_offAll vM_up vM_down vM_sharesUp vM_sharesDown vM_onUp vM_onDown vM_great vM_triedOff vM_triedLeaked vM_triedKept vM_fitting vM_firstSet vM_inAll vM_inAny u7.2.1 u7.2.2.1 u7.2.2.2.1 u7.2.2.2.2.1 u7.2.2.2.2.2 cM_tape cM_d) rfl rfl rfl rfl rfl (by decide +kernel) rfl rfl (Nat.le_of_ble_eq_true rfl) ⟨Nat.zero_le _, Nat.zero_le _⟩ dX8_item_35 (fun H locs hP hD hS => ?_)
      refine lv_istore_n (lv' := [(2, .int u7.1), (1, .int u1), (0, .ref aM)]) hx hb dX8_item_38 rfl hl (by decide) rfl (fun ls hl => ?_)
      refine lv_aload_n hx hb dX8_item_39 rfl (lv_at hl 2 rfl) ?_
      refine va_get (D := D) (ci := 7) (v := .ref aM_d) (C := RX8) (T := TX8) (N := 43) hx hb hts in_X8 hown hK hP 0 rfl rfl 0 (by decide) q3 (fun _ h9 => h9) rfl dX8_item_40 ?_
      refine lv_iconst (v := 3) hx hb dX8_item_43 (by decide) ?_
      refine lv_aload_n hx hb dX8_item_44 rfl (lv_at hl 2 rfl) ?_
      refine va_get (D := D) (ci := 7) (v := .int u7.2.2.2.2.2) (C := RX8) (T := TX8) (N := 43) hx hb hts in_X8 hown hK hP 0 rfl rfl 38 (by decide) q4 (fun _ h9 => h9) rfl dX8_item_45 ?_
      refine lv_if_ge (tgt := 55) hx hb dX8_item_48 (by decide) (fun c8 => ?_) (fun c8 => ?_)
      · have h := br_pos c8 h
        refine lv_aload_n hx hb dX8_item_55 rfl (lv_at hl 2 rfl) ?_
        refine va_get (D := D) (ci := 7) (v := .ref aM_d) (C := RX8) (T := TX8) (N := 43) hx hb hts in_X8 hown hK hP 0 rfl rfl 0 (by decide) q3 (fun _ h9 => h9) rfl dX8_item_56 ?_
        refine lv_iconst (v := 3) hx hb dX8_item_59 (by decide) ?_
        refine va_iald hx hb hK hP 2 0 rfl rfl (by unfold vp_in; decide) dX8_item_60 ?_
        refine va_iast hx hb hK hP hD hS 2 0 rfl rfl (by unfold vp_in; decide) dX8_item_61 (fun H locs hP hD hS => ?_)
        have hP : va_P D vwCl (w_X8_item cyI cyJ cyZ cyB cyO aM aM_tape aM_d aM_e aM_f aM_kept aM_found aM_came aM_got aM_held aM_off aM_comesUp aM_comesDown aM_path aM_gets aM_gotNow aM_bitsOf aM_sizeOf aM_number aM_passing vM_isKept vM_taped vM_leaked vM_keptAll vM_offAll vM_up vM_down vM_sharesUp vM_sharesDown vM_onUp vM_onDown vM_great vM_triedOff vM_triedLeaked vM_triedKept vM_fitting vM_firstSet vM_inAll vM_inAny u7.2.1 u7.2.2.1 u7.2.2.2.1 u7.2.2.2.2.1 u7.2.2.2.2.2 cM_tape (upd cM_d (3 : Int32).toNatClampNeg (cM_d (3 : Int32).toNatClampNeg))) H := hP
        have hD : va_D A (w_X8_item cyI cyJ cyZ cyB cyO aM aM_tape aM_d aM_e aM_f aM_kept aM_found aM_came aM_got aM_held aM_off aM_comesUp aM_comesDown aM_path aM_gets aM_gotNow aM_bitsOf aM_sizeOf aM_number aM_passing vM_isKept vM_taped vM_leaked vM_keptAll vM_offAll vM_up vM_down vM_sharesUp vM_sharesDown vM_onUp vM_onDown vM_great vM_triedOff vM_triedLeaked vM_triedKept vM_fitting vM_firstSet vM_inAll vM_inAny u7.2.1 u7.2.2.1 u7.2.2.2.1 u7.2.2.2.2.1 u7.2.2.2.2.2 cM_tape (upd cM_d (3 : Int32).toNatClampNeg (cM_d (3 : Int32).toNatClampNeg))) := hD
        refine lv_goto (tgt := 69) hx hb dX8_item_62 (by decide) ?_
        obtain rfl := Option.some.inj h
        exact hret _ _ _ _ hP hD hS dX8_item_69 
      · have h := br_neg c8 h
        refine lv_iload_n hx hb dX8_item_51 rfl (lv_at hl 0 rfl) ?_
        refine lv_goto (tgt := 61) hx hb dX8_item_52 (by decide) ?_
        refine va_iast hx hb hK hP hD hS 2 0 rfl rfl (by unfold vp_in; decide) dX8_item_61 (fun H locs hP hD hS => ?_)
        have hP : va_P D vwCl (w_X8_item cyI cyJ cyZ cyB cyO aM aM_tape aM_d aM_e aM_f aM_kept aM_found aM_came aM_got aM_held aM_off aM_comesUp aM_comesDown aM_path aM_gets aM_gotNow aM_bitsOf aM_sizeOf aM_number aM_passing vM_isKept vM_taped vM_leaked vM_keptAll vM_offAll vM_up vM_down vM_sharesUp vM_sharesDown vM_onUp vM_onDown vM_great vM_triedOff vM_triedLeaked vM_triedKept vM_fitting vM_firstSet vM_inAll vM_inAny u7.2.1 u7.2.2.1 u7.2.2.2.1 u7.2.2.2.2.1 u7.2.2.2.2.2 cM_tape (upd cM_d (3 : Int32).toNatClampNeg u7.1)) H := hP
        have hD : va_D A (w_X8_item cyI cyJ cyZ cyB cyO aM aM_tape aM_d aM_e aM_f aM_kept aM_found aM_came aM_got aM_held aM_off aM_comesUp aM_comesDown aM_path aM_gets aM_gotNow aM_bitsOf aM_sizeOf aM_number aM_passing vM_isKept vM_taped vM_leaked vM_keptAll vM_offAll vM_up vM_down vM_sharesUp vM_sharesDown vM_onUp vM_onDown vM_great vM_triedOff vM_triedLeaked vM_triedKept vM_fitting vM_firstSet vM_inAll vM_inAny u7.2.1 u7.2.2.1 u7.2.2.2.1 u7.2.2.2.2.1 u7.2.2.2.2.2 cM_tape (upd cM_d (3 : Int32).toNatClampNeg u7.1)) := hD
        refine lv_goto (tgt := 69) hx hb dX8_item_62 (by decide) ?_
        obtain rfl := Option.some.inj h
        exact hret _ _ _ _ hP hD hS dX8_item_69 
  · have h := br_neg c2 h
    refine lv_aload_n hx hb dX8_item_9 rfl (lv_at hl 1 rfl) ?_
    refine lv_iload_n hx hb dX8_item_10 rfl (lv_at hl 0 rfl) ?_
    obtain ⟨u9, hu9, h⟩ := bd_some h
    refine cl_Vv (rest := []) F hK hP hD hS hA hl (t_X8_basinHere l D cyI cyJ cyZ cyB cyO aM aM_d aM_tape aM_e aM_f aM_kept aM_found aM_came aM_got aM_held aM_off aM_comesUp aM_comesDown aM_path aM_gets aM_gotNow aM_bitsOf aM_sizeOf aM_number aM_passing vM_isKept vM_taped vM_leaked vM_keptAll vM_offAll vM_up vM_down vM_sharesUp vM_sharesDown vM_onUp vM_onDown vM_great vM_triedOff vM_triedLeaked vM_triedKept vM_fitting vM_firstSet vM_inAll vM_inAny vM_at vM_sort vM_from vM_value vM_fault cM_d cM_tape u1 u9 hu9) (cwV 1 hts gX8_item_X8_basinHere rfl rfl rfl (by decide +kernel) ⟨Nat.le_of_ble_eq_true rfl, Nat.le_of_ble_eq_true rfl⟩) 0 [0, 2, 1] [1, 3, 2] [] (w_X8_item cyI cyJ cyZ cyB cyO aM aM_tape aM_d aM_e aM_f aM_kept aM_found aM_came aM_got aM_held aM_off aM_comesUp aM_comesDown aM_path aM_gets aM_gotNow aM_bitsOf aM_sizeOf aM_number aM_passing vM_isKept vM_taped vM_leaked vM_keptAll vM_offAll vM_up vM_down vM_sharesUp vM_sharesDown vM_onUp vM_onDown vM_great vM_triedOff vM_triedLeaked vM_triedKept vM_fitting vM_firstSet vM_inAll vM_inAny u9.1 u9.2.1 u9.2.2.1 u9.2.2.2.1 u9.2.2.2.2.1 cM_tape u9.2.2.2.2.2) rfl rfl rfl rfl rfl (by decide +kernel) rfl rfl (Nat.le_of_ble_eq_true rfl) ⟨Nat.zero_le _, Nat.zero_le _⟩ dX8_item_11 (fun H locs hP hD hS => ?_)
    refine lv_goto (tgt := 69) hx hb dX8_item_14 (by decide) ?_
    obtain rfl := Option.some.inj h
    exact hret _ _ _ _ hP hD hS dX8_item_69 
/-! ===== X8_items ===== -/
def w_X8_items (cyI cyJ cyZ cyB cyO : ClassId) (aM aM_tape aM_d aM_e aM_f aM_kept aM_found aM_came aM_got aM_held aM_off aM_comesUp aM_comesDown aM_path aM_gets aM_gotNow aM_bitsOf aM_sizeOf aM_number aM_passing : Nat) (vM_isKept : Int32) (vM_taped : Int32) (vM_leaked : Int32) (vM_keptAll : Int32) (vM_offAll : Int32) (vM_up : Int64) (vM_down : Int64) (vM_sharesUp : Int64) (vM_sharesDown : Int64) (vM_onUp : Int64) (vM_onDown : Int64) (vM_great : Int32) (vM_triedOff : Int32) (vM_triedLeaked : Int32) (vM_triedKept : Int32) (vM_fitting : Int32) (vM_firstSet : Int32) (vM_inAll : Int32) (vM_inAny : Int32) (vM_at : Int32) (vM_sort : Int32) (vM_from : Int32) (vM_value : Int64) (vM_fault : Int32) (cM_tape : Nat → Int32) (cM_d : Nat → Int32) : va_W := [(aM, .inr (7, [.ref aM_d, .ref aM_e, .ref aM_f, .ref aM_kept, .int vM_isKept, .ref aM_found, .ref aM_tape, .int vM_taped, .ref aM_came, .ref aM_got, .ref aM_held, .ref aM_off, .int vM_leaked, .int vM_keptAll, .int vM_offAll, .ref aM_comesUp, .ref aM_comesDown, .long vM_up, .long vM_down, .long vM_sharesUp, .long vM_sharesDown, .long vM_onUp, .long vM_onDown, .int vM_great, .ref aM_path, .ref aM_gets, .int vM_triedOff, .int vM_triedLeaked, .int vM_triedKept, .ref aM_gotNow, .int vM_fitting, .int vM_firstSet, .int vM_inAll, .int vM_inAny, .int vM_at, .int vM_sort, .int vM_from, .long vM_value, .int vM_fault, .ref aM_bitsOf, .ref aM_sizeOf, .ref aM_number, .ref aM_passing])), (aM_tape, .inl (cyB, 120, .inl cM_tape)), (aM_d, .inl (cyI, 64, .inl cM_d))]
set_option maxHeartbeats 4000000 in
set_option maxRecDepth 100000 in
theorem t_X8_items (l : Launch) (D : va_G) (cyI cyJ cyZ cyB cyO : ClassId) (aM aM_tape aM_d aM_e aM_f aM_kept aM_found aM_came aM_got aM_held aM_off aM_comesUp aM_comesDown aM_path aM_gets aM_gotNow aM_bitsOf aM_sizeOf aM_number aM_passing : Nat) (vM_isKept : Int32) (vM_taped : Int32) (vM_leaked : Int32) (vM_keptAll : Int32) (vM_offAll : Int32) (vM_up : Int64) (vM_down : Int64) (vM_sharesUp : Int64) (vM_sharesDown : Int64) (vM_onUp : Int64) (vM_onDown : Int64) (vM_great : Int32) (vM_triedOff : Int32) (vM_triedLeaked : Int32) (vM_triedKept : Int32) (vM_fitting : Int32) (vM_firstSet : Int32) (vM_inAll : Int32) (vM_inAny : Int32) (vM_at : Int32) (vM_sort : Int32) (vM_from : Int32) (vM_value : Int64) (vM_fault : Int32) (cM_tape : Nat → Int32) (cM_d : Nat → Int32) (out : Int32 × Int32 × Int32 × Int32 × Int64 × Int32 × (Nat → Int32)) (h : f_X8_items vM_taped vM_at vM_sort vM_from vM_value vM_fault cM_tape cM_d = some out) : Mi l yX8_items wsX8_items ({ frames := 5, cells := 0, slots := 0, locals := 111 } : Room) D (tyA cyI cyJ cyZ cyB cyO) [.ref aM] (w_X8_items cyI cyJ cyZ cyB cyO aM aM_tape aM_d aM_e aM_f aM_kept aM_found aM_came aM_got aM_held aM_off aM_comesUp aM_comesDown aM_path aM_gets aM_gotNow aM_bitsOf aM_sizeOf aM_number aM_passing vM_isKept vM_taped vM_leaked vM_keptAll vM_offAll vM_up vM_down vM_sharesUp vM_sharesDown vM_onUp vM_onDown vM_great vM_triedOff vM_triedLeaked vM_triedKept vM_fitting vM_firstSet vM_inAll vM_inAny vM_at vM_sort vM_from vM_value vM_fault cM_tape cM_d) (w_X8_items cyI cyJ cyZ cyB cyO aM aM_tape aM_d aM_e aM_f aM_kept aM_found aM_came aM_got aM_held aM_off aM_comesUp aM_comesDown aM_path aM_gets aM_gotNow aM_bitsOf aM_sizeOf aM_number aM_passing vM_isKept vM_taped vM_leaked vM_keptAll vM_offAll vM_up vM_down vM_sharesUp vM_sharesDown vM_onUp vM_onDown vM_great vM_triedOff vM_triedLeaked vM_triedKept vM_fitting vM_firstSet vM_inAll vM_inAny out.2.1 out.2.2.1 out.2.2.2.1 out.2.2.2.2.1 out.2.2.2.2.2.1 cM_tape out.2.2.2.2.2.2) out.1 := by
  refine Mi.mk (cc := cX8_items) (maxL := 2) (rt := .int) (own := RX8) (by decide) rfl rfl (Nat.le_of_ble_eq_true rfl) ?_
  intro p e s m args below meth c A Q F hK hP hD hA hret ls hl
  obtain ⟨hx, hb, hml, hown, hts⟩ := id F
  have hS : va_S A s.heap s.heap [] := va_S.rf
  have hl : lv_has ls 2 [(0, .ref aM)] := hl
  have in_X8 : ∀ w ∈ wsX80, w ∈ wsX8_items := by decide +kernel
  have q1 := hts (Cond.fieldLink RX8 279 "ThirdFountainModel" "at" "I") (List.mem_of_getElem? (i := 1) rfl)
  have q2 := hts (Cond.fieldLink RX8 306 "ThirdFountainModel" "fault" "I") (List.mem_of_getElem? (i := 2) rfl)
  have q4 := hts (Cond.methodLink RX8 330 yX8_next) (List.mem_of_getElem? (i := 4) rfl)
  have q28 := hts (Cond.methodLink RX8 348 yX8_item) (List.mem_of_getElem? (i := 28) rfl)
  have q3 := hts (Cond.fieldLink RX8 291 "ThirdFountainModel" "sort" "I") (List.mem_of_getElem? (i := 3) rfl)
  have q56 := hts (Cond.methodLink RX8 327 yX8_wrongHere) (List.mem_of_getElem? (i := 56) rfl)
  unfold f_X8_items at h
  refine lv_aload_n hx hb dX8_items_0 rfl (lv_at hl 0 rfl) ?_
  refine lv_iconst (v := 0) hx hb dX8_items_1 (by decide) ?_
  refine va_put (D := D) (ci := 7) (v := .int (0 : Int32)) (ty := .int) (C := RX8) (T := TX8) (N := 43) hx hb hts in_X8 tyX8 tyX8_ok nmX8 hown hK hP hD hS 0 rfl rfl 34 (by decide) q1 (fun _ h9 => h9) rfl (by decide +kernel) rfl rfl (Nat.le_of_ble_eq_true rfl) dX8_items_2 (fun H locs hP hD hS => ?_)
  have hP : va_P D vwCl (w_X8_items cyI cyJ cyZ cyB cyO aM aM_tape aM_d aM_e aM_f aM_kept aM_found aM_came aM_got aM_held aM_off aM_comesUp aM_comesDown aM_path aM_gets aM_gotNow aM_bitsOf aM_sizeOf aM_number aM_passing vM_isKept vM_taped vM_leaked vM_keptAll vM_offAll vM_up vM_down vM_sharesUp vM_sharesDown vM_onUp vM_onDown vM_great vM_triedOff vM_triedLeaked vM_triedKept vM_fitting vM_firstSet vM_inAll vM_inAny (0 : Int32) vM_sort vM_from vM_value vM_fault cM_tape cM_d) H := hP
  have hD : va_D A (w_X8_items cyI cyJ cyZ cyB cyO aM aM_tape aM_d aM_e aM_f aM_kept aM_found aM_came aM_got aM_held aM_off aM_comesUp aM_comesDown aM_path aM_gets aM_gotNow aM_bitsOf aM_sizeOf aM_number aM_passing vM_isKept vM_taped vM_leaked vM_keptAll vM_offAll vM_up vM_down vM_sharesUp vM_sharesDown vM_onUp vM_onDown vM_great vM_triedOff vM_triedLeaked vM_triedKept vM_fitting vM_firstSet vM_inAll vM_inAny (0 : Int32) vM_sort vM_from vM_value vM_fault cM_tape cM_d) := hD
  refine lv_aload_n hx hb dX8_items_5 rfl (lv_at hl 0 rfl) ?_
  refine lv_iconst (v := -1) hx hb dX8_items_6 (by decide) ?_
  refine va_put (D := D) (ci := 7) (v := .int (-1 : Int32)) (ty := .int) (C := RX8) (T := TX8) (N := 43) hx hb hts in_X8 tyX8 tyX8_ok nmX8 hown hK hP hD hS 0 rfl rfl 38 (by decide) q2 (fun _ h9 => h9) rfl (by decide +kernel) rfl rfl (Nat.le_of_ble_eq_true rfl) dX8_items_7 (fun H locs hP hD hS => ?_)
  have hP : va_P D vwCl (w_X8_items cyI cyJ cyZ cyB cyO aM aM_tape aM_d aM_e aM_f aM_kept aM_found aM_came aM_got aM_held aM_off aM_comesUp aM_comesDown aM_path aM_gets aM_gotNow aM_bitsOf aM_sizeOf aM_number aM_passing vM_isKept vM_taped vM_leaked vM_keptAll vM_offAll vM_up vM_down vM_sharesUp vM_sharesDown vM_onUp vM_onDown vM_great vM_triedOff vM_triedLeaked vM_triedKept vM_fitting vM_firstSet vM_inAll vM_inAny (0 : Int32) vM_sort vM_from vM_value (-1 : Int32) cM_tape cM_d) H := hP
  have hD : va_D A (w_X8_items cyI cyJ cyZ cyB cyO aM aM_tape aM_d aM_e aM_f aM_kept aM_found aM_came aM_got aM_held aM_off aM_comesUp aM_comesDown aM_path aM_gets aM_gotNow aM_bitsOf aM_sizeOf aM_number aM_passing vM_isKept vM_taped vM_leaked vM_keptAll vM_offAll vM_up vM_down vM_sharesUp vM_sharesDown vM_onUp vM_onDown vM_great vM_triedOff vM_triedLeaked vM_triedKept vM_fitting vM_firstSet vM_inAll vM_inAny (0 : Int32) vM_sort vM_from vM_value (-1 : Int32) cM_tape cM_d) := hD
  refine lv_aload_n hx hb dX8_items_10 rfl (lv_at hl 0 rfl) ?_
  obtain ⟨u1, hu1, h⟩ := bd_some h
  refine cl_Vv (rest := []) F hK hP hD hS hA hl (t_X8_next l D cyI cyJ cyZ cyB cyO aM aM_tape aM_d aM_e aM_f aM_kept aM_found aM_came aM_got aM_held aM_off aM_comesUp aM_comesDown aM_path aM_gets aM_gotNow aM_bitsOf aM_sizeOf aM_number aM_passing vM_isKept vM_taped vM_leaked vM_keptAll vM_offAll vM_up vM_down vM_sharesUp vM_sharesDown vM_onUp vM_onDown vM_great vM_triedOff vM_triedLeaked vM_triedKept vM_fitting vM_firstSet vM_inAll vM_inAny (0 : Int32) vM_sort vM_from vM_value (-1 : Int32) cM_tape u1 hu1) (cwV 0 hts gX8_items_X8_next rfl rfl rfl (by decide +kernel) ⟨Nat.le_of_ble_eq_true rfl, Nat.le_of_ble_eq_true rfl⟩) 0 [0, 1] [1, 2, 0] [] (w_X8_items cyI cyJ cyZ cyB cyO aM aM_tape aM_d aM_e aM_f aM_kept aM_found aM_came aM_got aM_held aM_off aM_comesUp aM_comesDown aM_path aM_gets aM_gotNow aM_bitsOf aM_sizeOf aM_number aM_passing vM_isKept vM_taped vM_leaked vM_keptAll vM_offAll vM_up vM_down vM_sharesUp vM_sharesDown vM_onUp vM_onDown vM_great vM_triedOff vM_triedLeaked vM_triedKept vM_fitting vM_firstSet vM_inAll vM_inAny u1.1 u1.2.1 u1.2.2.1 u1.2.2.2 (-1 : Int32) cM_tape cM_d) rfl rfl rfl rfl rfl (by decide +kernel) rfl rfl (Nat.le_of_ble_eq_true rfl) ⟨Nat.zero_le _, Nat.zero_le _⟩ dX8_items_11 (fun H locs hP hD hS => ?_)
  refine lv_aload_n hx hb dX8_items_14 rfl (lv_at hl 0 rfl) ?_
  obtain ⟨u2, hu2, h⟩ := bd_some h
  refine cl_Vv (rest := []) F hK hP hD hS hA hl (t_X8_item l D cyI cyJ cyZ cyB cyO aM aM_tape aM_d aM_e aM_f aM_kept aM_found aM_came aM_got aM_held aM_off aM_comesUp aM_comesDown aM_path aM_gets aM_gotNow aM_bitsOf aM_sizeOf aM_number aM_passing vM_isKept vM_taped vM_leaked vM_keptAll vM_offAll vM_up vM_down vM_sharesUp vM_sharesDown vM_onUp vM_onDown vM_great vM_triedOff vM_triedLeaked vM_triedKept vM_fitting vM_firstSet vM_inAll vM_inAny u1.1 u1.2.1 u1.2.2.1 u1.2.2.2 (-1 : Int32) cM_tape cM_d u2 hu2) (cwV 0 hts gX8_items_X8_item rfl rfl rfl (by decide +kernel) ⟨Nat.le_of_ble_eq_true rfl, Nat.le_of_ble_eq_true rfl⟩) 0 [0, 1, 2] [1, 2, 3] [] (w_X8_items cyI cyJ cyZ cyB cyO aM aM_tape aM_d aM_e aM_f aM_kept aM_found aM_came aM_got aM_held aM_off aM_comesUp aM_comesDown aM_path aM_gets aM_gotNow aM_bitsOf aM_sizeOf aM_number aM_passing vM_isKept vM_taped vM_leaked vM_keptAll vM_offAll vM_up vM_down vM_sharesUp vM_sharesDown vM_onUp vM_onDown vM_great vM_triedOff vM_triedLeaked vM_triedKept vM_fitting vM_firstSet vM_inAll vM_inAny u2.1 u2.2.1 u2.2.2.1 u2.2.2.2.1 u2.2.2.2.2.1 cM_tape u2.2.2.2.2.2) rfl rfl rfl rfl rfl (by decide +kernel) rfl rfl (Nat.le_of_ble_eq_true rfl) ⟨Nat.zero_le _, Nat.zero_le _⟩ dX8_items_15 (fun H locs hP hD hS => ?_)
  refine lv_iconst (v := 1) hx hb dX8_items_18 (by decide) ?_
  refine lv_istore_n (lv' := [(1, .int (1 : Int32)), (0, .ref aM)]) hx hb dX8_items_19 rfl hl (by decide) rfl (fun ls hl => ?_)
  have lp20 : ∀ (k20 : Nat) (y1 : Int32) (vM_at : Int32) (vM_sort : Int32) (vM_from : Int32) (vM_value : Int64) (vM_fault : Int32) (cM_d : Nat → Int32) (H : Heap) (locs : List Loc) (ls : Array Slot), va_P D vwCl (w_X8_items cyI cyJ cyZ cyB cyO aM aM_tape aM_d aM_e aM_f aM_kept aM_found aM_came aM_got aM_held aM_off aM_comesUp aM_comesDown aM_path aM_gets aM_gotNow aM_bitsOf aM_sizeOf aM_number aM_passing vM_isKept vM_taped vM_leaked vM_keptAll vM_offAll vM_up vM_down vM_sharesUp vM_sharesDown vM_onUp vM_onDown vM_great vM_triedOff vM_triedLeaked vM_triedKept vM_fitting vM_firstSet vM_inAll vM_inAny vM_at vM_sort vM_from vM_value vM_fault cM_tape cM_d) H → va_D A (w_X8_items cyI cyJ cyZ cyB cyO aM aM_tape aM_d aM_e aM_f aM_kept aM_found aM_came aM_got aM_held aM_off aM_comesUp aM_comesDown aM_path aM_gets aM_gotNow aM_bitsOf aM_sizeOf aM_number aM_passing vM_isKept vM_taped vM_leaked vM_keptAll vM_offAll vM_up vM_down vM_sharesUp vM_sharesDown vM_onUp vM_onDown vM_great vM_triedOff vM_triedLeaked vM_triedKept vM_fitting vM_firstSet vM_inAll vM_inAny vM_at vM_sort vM_from vM_value vM_fault cM_tape cM_d) → va_S A s.heap H locs → lv_has ls 2 [(1, .int y1), (0, .ref aM)] → (f_X8_items_L20 vM_taped cM_tape k20) (y1, vM_at, vM_sort, vM_from, vM_value, vM_fault, cM_d) = some out → W p l e ({ frames := 5, cells := 0, slots := 0, locals := 111 } : Room) s m args below meth c H locs 0 0 Q (F0 m 20 ls []) := by
    intro k20
    induction k20 with
    | zero => intro y1 vM_at vM_sort vM_from vM_value vM_fault cM_d H locs ls hP hD hS hl h; cases h
    | succ k20 ih20 =>
      intro y1 vM_at vM_sort vM_from vM_value vM_fault cM_d H locs ls hP hD hS hl h
      have h : f_X8_items_L20_b vM_taped cM_tape (f_X8_items_L20 vM_taped cM_tape k20) y1 vM_at vM_sort vM_from vM_value vM_fault cM_d = some out := h
      unfold f_X8_items_L20_b at h
      refine lv_aload_n hx hb dX8_items_20 rfl (lv_at hl 1 rfl) ?_
      refine va_get (D := D) (ci := 7) (v := .int vM_fault) (C := RX8) (T := TX8) (N := 43) hx hb hts in_X8 hown hK hP 0 rfl rfl 38 (by decide) q2 (fun _ h9 => h9) rfl dX8_items_21 ?_
      have j49 : ∀ (y1 : Int32) (vM_at : Int32) (vM_sort : Int32) (vM_from : Int32) (vM_value : Int64) (vM_fault : Int32) (cM_d : Nat → Int32) (H : Heap) (locs : List Loc) (ls : Array Slot), va_P D vwCl (w_X8_items cyI cyJ cyZ cyB cyO aM aM_tape aM_d aM_e aM_f aM_kept aM_found aM_came aM_got aM_held aM_off aM_comesUp aM_comesDown aM_path aM_gets aM_gotNow aM_bitsOf aM_sizeOf aM_number aM_passing vM_isKept vM_taped vM_leaked vM_keptAll vM_offAll vM_up vM_down vM_sharesUp vM_sharesDown vM_onUp vM_onDown vM_great vM_triedOff vM_triedLeaked vM_triedKept vM_fitting vM_firstSet vM_inAll vM_inAny vM_at vM_sort vM_from vM_value vM_fault cM_tape cM_d) H → va_D A (w_X8_items cyI cyJ cyZ cyB cyO aM aM_tape aM_d aM_e aM_f aM_kept aM_found aM_came aM_got aM_held aM_off aM_comesUp aM_comesDown aM_path aM_gets aM_gotNow aM_bitsOf aM_sizeOf aM_number aM_passing vM_isKept vM_taped vM_leaked vM_keptAll vM_offAll vM_up vM_down vM_sharesUp vM_sharesDown vM_onUp vM_onDown vM_great vM_triedOff vM_triedLeaked vM_triedKept vM_fitting vM_firstSet vM_inAll vM_inAny vM_at vM_sort vM_from vM_value vM_fault cM_tape cM_d) → va_S A s.heap H locs → lv_has ls 2 [(1, .int y1), (0, .ref aM)] → f_X8_items_J49 vM_taped cM_tape y1 vM_at vM_sort vM_from vM_value vM_fault cM_d = some out → W p l e ({ frames := 5, cells := 0, slots := 0, locals := 111 } : Room) s m args below meth c H locs 0 0 Q (F0 m 49 ls []) := by
        intro y1 vM_at vM_sort vM_from vM_value vM_fault cM_d H locs ls hP hD hS hl h
        unfold f_X8_items_J49 at h
        refine lv_aload_n hx hb dX8_items_49 rfl (lv_at hl 1 rfl) ?_
        refine va_get (D := D) (ci := 7) (v := .int vM_fault) (C := RX8) (T := TX8) (N := 43) hx hb hts in_X8 hown hK hP 0 rfl rfl 38 (by decide) q2 (fun _ h9 => h9) rfl dX8_items_50 ?_
        refine lv_if_ge (tgt := 67) hx hb dX8_items_53 (by decide) (fun c3 => ?_) (fun c3 => ?_)
        · have h := br_pos c3 h
          refine lv_iload_n hx hb dX8_items_67 rfl (lv_at hl 0 rfl) ?_
          obtain rfl := Option.some.inj h
          exact hret _ _ _ _ _ hP hD hS dX8_items_68 rfl rfl
        · have h := br_neg c3 h
          refine lv_aload_n hx hb dX8_items_56 rfl (lv_at hl 1 rfl) ?_
          refine va_get (D := D) (ci := 7) (v := .int vM_sort) (C := RX8) (T := TX8) (N := 43) hx hb hts in_X8 hown hK hP 0 rfl rfl 35 (by decide) q3 (fun _ h9 => h9) rfl dX8_items_57 ?_
          refine lv_if_eq (tgt := 67) hx hb dX8_items_60 (by decide) (fun c4 => ?_) (fun c4 => ?_)
          · have h := br_pos c4 h
            refine lv_iload_n hx hb dX8_items_67 rfl (lv_at hl 0 rfl) ?_
            obtain rfl := Option.some.inj h
            exact hret _ _ _ _ _ hP hD hS dX8_items_68 rfl rfl
          · have h := br_neg c4 h
            refine lv_aload_n hx hb dX8_items_63 rfl (lv_at hl 1 rfl) ?_
            obtain ⟨u5, hu5, h⟩ := bd_some h
            refine cl_Vv (rest := []) F hK hP hD hS hA hl (t_X8_wrongHere l D cyI cyJ cyZ cyB cyO aM aM_d aM_e aM_f aM_kept aM_found aM_tape aM_came aM_got aM_held aM_off aM_comesUp aM_comesDown aM_path aM_gets aM_gotNow aM_bitsOf aM_sizeOf aM_number aM_passing vM_isKept vM_taped vM_leaked vM_keptAll vM_offAll vM_up vM_down vM_sharesUp vM_sharesDown vM_onUp vM_onDown vM_great vM_triedOff vM_triedLeaked vM_triedKept vM_fitting vM_firstSet vM_inAll vM_inAny vM_at vM_sort vM_from vM_value vM_fault u5 hu5) (cwV 0 hts gX8_items_X8_wrongHere rfl rfl rfl (by decide +kernel) ⟨Nat.le_of_ble_eq_true rfl, Nat.le_of_ble_eq_true rfl⟩) 0 [0] [1, 0, 0] [] (w_X8_items cyI cyJ cyZ cyB cyO aM aM_tape aM_d aM_e aM_f aM_kept aM_found aM_came aM_got aM_held aM_off aM_comesUp aM_comesDown aM_path aM_gets aM_gotNow aM_bitsOf aM_sizeOf aM_number aM_passing vM_isKept vM_taped vM_leaked vM_keptAll vM_offAll vM_up vM_down vM_sharesUp vM_sharesDown vM_onUp vM_onDown vM_great vM_triedOff vM_triedLeaked vM_triedKept vM_fitting vM_firstSet vM_inAll vM_inAny vM_at vM_sort vM_from vM_value u5 cM_tape cM_d) rfl rfl rfl rfl rfl (by decide +kernel) rfl rfl (Nat.le_of_ble_eq_true rfl) ⟨Nat.zero_le _, Nat.zero_le _⟩ dX8_items_64 (fun H locs hP hD hS => ?_)
            refine lv_iload_n hx hb dX8_items_67 rfl (lv_at hl 0 rfl) ?_
            obtain rfl := Option.some.inj h
            exact hret _ _ _ _ _ hP hD hS dX8_items_68 rfl rfl
      refine lv_if_ge (tgt := 49) hx hb dX8_items_24 (by decide) (fun c6 => ?_) (fun c6 => ?_)
      · have h := br_pos c6 h
        exact j49 y1 vM_at vM_sort vM_from vM_value vM_fault cM_d _ _ _ hP hD hS (lv_sub hl [0, 1] rfl) h
      · have h := br_neg c6 h
        refine lv_aload_n hx hb dX8_items_27 rfl (lv_at hl 1 rfl) ?_
        refine va_get (D := D) (ci := 7) (v := .int vM_sort) (C := RX8) (T := TX8) (N := 43) hx hb hts in_X8 hown hK hP 0 rfl rfl 35 (by decide) q3 (fun _ h9 => h9) rfl dX8_items_28 ?_
        refine lv_iconst (v := 3) hx hb dX8_items_31 (by decide) ?_
        refine lv_icmp_ne (tgt := 49) hx hb dX8_items_32 (by decide) (fun c7 => ?_) (fun c7 => ?_)
        · have h := br_neg c7 h
          exact j49 y1 vM_at vM_sort vM_from vM_value vM_fault cM_d _ _ _ hP hD hS (lv_sub hl [0, 1] rfl) h
        · have h := br_pos c7 h
          refine lv_aload_n hx hb dX8_items_35 rfl (lv_at hl 1 rfl) ?_
          obtain ⟨u8, hu8, h⟩ := bd_some h
          refine cl_Vv (rest := []) F hK hP hD hS hA hl (t_X8_next l D cyI cyJ cyZ cyB cyO aM aM_tape aM_d aM_e aM_f aM_kept aM_found aM_came aM_got aM_held aM_off aM_comesUp aM_comesDown aM_path aM_gets aM_gotNow aM_bitsOf aM_sizeOf aM_number aM_passing vM_isKept vM_taped vM_leaked vM_keptAll vM_offAll vM_up vM_down vM_sharesUp vM_sharesDown vM_onUp vM_onDown vM_great vM_triedOff vM_triedLeaked vM_triedKept vM_fitting vM_firstSet vM_inAll vM_inAny vM_at vM_sort vM_from vM_value vM_fault cM_tape u8 hu8) (cwV 0 hts gX8_items_X8_next rfl rfl rfl (by decide +kernel) ⟨Nat.le_of_ble_eq_true rfl, Nat.le_of_ble_eq_true rfl⟩) 0 [0, 1] [1, 2, 0] [] (w_X8_items cyI cyJ cyZ cyB cyO aM aM_tape aM_d aM_e aM_f aM_kept aM_found aM_came aM_got aM_held aM_off aM_comesUp aM_comesDown aM_path aM_gets aM_gotNow aM_bitsOf aM_sizeOf aM_number aM_passing vM_isKept vM_taped vM_leaked vM_keptAll vM_offAll vM_up vM_down vM_sharesUp vM_sharesDown vM_onUp vM_onDown vM_great vM_triedOff vM_triedLeaked vM_triedKept vM_fitting vM_firstSet vM_inAll vM_inAny u8.1 u8.2.1 u8.2.2.1 u8.2.2.2 vM_fault cM_tape cM_d) rfl rfl rfl rfl rfl (by decide +kernel) rfl rfl (Nat.le_of_ble_eq_true rfl) ⟨Nat.zero_le _, Nat.zero_le _⟩ dX8_items_36 (fun H locs hP hD hS => ?_)
          refine lv_aload_n hx hb dX8_items_39 rfl (lv_at hl 1 rfl) ?_
          obtain ⟨u9, hu9, h⟩ := bd_some h
          refine cl_Vv (rest := []) F hK hP hD hS hA hl (t_X8_item l D cyI cyJ cyZ cyB cyO aM aM_tape aM_d aM_e aM_f aM_kept aM_found aM_came aM_got aM_held aM_off aM_comesUp aM_comesDown aM_path aM_gets aM_gotNow aM_bitsOf aM_sizeOf aM_number aM_passing vM_isKept vM_taped vM_leaked vM_keptAll vM_offAll vM_up vM_down vM_sharesUp vM_sharesDown vM_onUp vM_onDown vM_great vM_triedOff vM_triedLeaked vM_triedKept vM_fitting vM_firstSet vM_inAll vM_inAny u8.1 u8.2.1 u8.2.2.1 u8.2.2.2 vM_fault cM_tape cM_d u9 hu9) (cwV 0 hts gX8_items_X8_item rfl rfl rfl (by decide +kernel) ⟨Nat.le_of_ble_eq_true rfl, Nat.le_of_ble_eq_true rfl⟩) 0 [0, 1, 2] [1, 2, 3] [] (w_X8_items cyI cyJ cyZ cyB cyO aM aM_tape aM_d aM_e aM_f aM_kept aM_found aM_came aM_got aM_held aM_off aM_comesUp aM_comesDown aM_path aM_gets aM_gotNow aM_bitsOf aM_sizeOf aM_number aM_passing vM_isKept vM_taped vM_leaked vM_keptAll vM_offAll vM_up vM_down vM_sharesUp vM_sharesDown vM_onUp vM_onDown vM_great vM_triedOff vM_triedLeaked vM_triedKept vM_fitting vM_firstSet vM_inAll vM_inAny u9.1 u9.2.1 u9.2.2.1 u9.2.2.2.1 u9.2.2.2.2.1 cM_tape u9.2.2.2.2.2) rfl rfl rfl rfl rfl (by decide +kernel) rfl rfl (Nat.le_of_ble_eq_true rfl) ⟨Nat.zero_le _, Nat.zero_le _⟩ dX8_items_40 (fun H locs hP hD hS => ?_)
          refine lv_iinc (v := y1 + 1) (lv' := [(1, .int (y1 + 1)), (0, .ref aM)]) hx hb dX8_items_43 hl (k := 0) rfl rfl (by decide) rfl (fun ls hl => ?_)
          refine lv_goto (tgt := 20) hx hb dX8_items_46 (by decide) ?_
          exact ih20 (y1 + 1) u9.1 u9.2.1 u9.2.2.1 u9.2.2.2.1 u9.2.2.2.2.1 u9.2.2.2.2.2 _ _ _ hP hD hS (lv_sub hl [0, 1] rfl) h
  exact lp20 FU (1 : Int32) u2.1 u2.2.1 u2.2.2.1 u2.2.2.2.1 u2.2.2.2.2.1 u2.2.2.2.2.2 _ _ _ hP hD hS (lv_sub hl [0, 1] rfl) h
/-! ===== X8_text ===== -/
def w_X8_text (cyI cyJ cyZ cyB cyO : ClassId) (aM aM_d aM_e aM_tape aM_f aM_kept aM_found aM_came aM_got aM_held aM_off aM_comesUp aM_comesDown aM_path aM_gets aM_gotNow aM_bitsOf aM_sizeOf aM_number aM_passing : Nat) (vM_isKept : Int32) (vM_taped : Int32) (vM_leaked : Int32) (vM_keptAll : Int32) (vM_offAll : Int32) (vM_up : Int64) (vM_down : Int64) (vM_sharesUp : Int64) (vM_sharesDown : Int64) (vM_onUp : Int64) (vM_onDown : Int64) (vM_great : Int32) (vM_triedOff : Int32) (vM_triedLeaked : Int32) (vM_triedKept : Int32) (vM_fitting : Int32) (vM_firstSet : Int32) (vM_inAll : Int32) (vM_inAny : Int32) (vM_at : Int32) (vM_sort : Int32) (vM_from : Int32) (vM_value : Int64) (vM_fault : Int32) (cM_d : Nat → Int32) (cM_e : Nat → Int32) (cM_tape : Nat → Int32) : va_W := [(aM, .inr (7, [.ref aM_d, .ref aM_e, .ref aM_f, .ref aM_kept, .int vM_isKept, .ref aM_found, .ref aM_tape, .int vM_taped, .ref aM_came, .ref aM_got, .ref aM_held, .ref aM_off, .int vM_leaked, .int vM_keptAll, .int vM_offAll, .ref aM_comesUp, .ref aM_comesDown, .long vM_up, .long vM_down, .long vM_sharesUp, .long vM_sharesDown, .long vM_onUp, .long vM_onDown, .int vM_great, .ref aM_path, .ref aM_gets, .int vM_triedOff, .int vM_triedLeaked, .int vM_triedKept, .ref aM_gotNow, .int vM_fitting, .int vM_firstSet, .int vM_inAll, .int vM_inAny, .int vM_at, .int vM_sort, .int vM_from, .long vM_value, .int vM_fault, .ref aM_bitsOf, .ref aM_sizeOf, .ref aM_number, .ref aM_passing])), (aM_d, .inl (cyI, 64, .inl cM_d)), (aM_e, .inl (cyI, 64, .inl cM_e)), (aM_tape, .inl (cyB, 120, .inl cM_tape))]
set_option maxHeartbeats 4000000 in
set_option maxRecDepth 100000 in
theorem t_X8_text (l : Launch) (D : va_G) (cyI cyJ cyZ cyB cyO : ClassId) (aM aM_d aM_e aM_tape aM_f aM_kept aM_found aM_came aM_got aM_held aM_off aM_comesUp aM_comesDown aM_path aM_gets aM_gotNow aM_bitsOf aM_sizeOf aM_number aM_passing : Nat) (vM_isKept : Int32) (vM_taped : Int32) (vM_leaked : Int32) (vM_keptAll : Int32) (vM_offAll : Int32) (vM_up : Int64) (vM_down : Int64) (vM_sharesUp : Int64) (vM_sharesDown : Int64) (vM_onUp : Int64) (vM_onDown : Int64) (vM_great : Int32) (vM_triedOff : Int32) (vM_triedLeaked : Int32) (vM_triedKept : Int32) (vM_fitting : Int32) (vM_firstSet : Int32) (vM_inAll : Int32) (vM_inAny : Int32) (vM_at : Int32) (vM_sort : Int32) (vM_from : Int32) (vM_value : Int64) (vM_fault : Int32) (cM_d : Nat → Int32) (cM_e : Nat → Int32) (cM_tape : Nat → Int32) (out : Int32 × Int32 × Int32 × Int32 × Int32 × Int64 × Int32 × (Nat → Int32) × (Nat → Int32)) (h : f_X8_text vM_taped vM_at vM_sort vM_from vM_value vM_fault cM_d cM_e cM_tape = some out) : Mi l yX8_text wsX8_text ({ frames := 6, cells := 0, slots := 0, locals := 132 } : Room) D (tyA cyI cyJ cyZ cyB cyO) [.ref aM] (w_X8_text cyI cyJ cyZ cyB cyO aM aM_d aM_e aM_tape aM_f aM_kept aM_found aM_came aM_got aM_held aM_off aM_comesUp aM_comesDown aM_path aM_gets aM_gotNow aM_bitsOf aM_sizeOf aM_number aM_passing vM_isKept vM_taped vM_leaked vM_keptAll vM_offAll vM_up vM_down vM_sharesUp vM_sharesDown vM_onUp vM_onDown vM_great vM_triedOff vM_triedLeaked vM_triedKept vM_fitting vM_firstSet vM_inAll vM_inAny vM_at vM_sort vM_from vM_value vM_fault cM_d cM_e cM_tape) (w_X8_text cyI cyJ cyZ cyB cyO aM aM_d aM_e aM_tape aM_f aM_kept aM_found aM_came aM_got aM_held aM_off aM_comesUp aM_comesDown aM_path aM_gets aM_gotNow aM_bitsOf aM_sizeOf aM_number aM_passing vM_isKept out.2.1 vM_leaked vM_keptAll vM_offAll vM_up vM_down vM_sharesUp vM_sharesDown vM_onUp vM_onDown vM_great vM_triedOff vM_triedLeaked vM_triedKept vM_fitting vM_firstSet vM_inAll vM_inAny out.2.2.1 out.2.2.2.1 out.2.2.2.2.1 out.2.2.2.2.2.1 out.2.2.2.2.2.2.1 out.2.2.2.2.2.2.2.1 out.2.2.2.2.2.2.2.2 cM_tape) out.1 := by
  refine Mi.mk (cc := cX8_text) (maxL := 2) (rt := .int) (own := RX8) (by decide) rfl rfl (Nat.le_of_ble_eq_true rfl) ?_
  intro p e s m args below meth c A Q F hK hP hD hA hret ls hl
  obtain ⟨hx, hb, hml, hown, hts⟩ := id F
  have hS : va_S A s.heap s.heap [] := va_S.rf
  have hl : lv_has ls 2 [(0, .ref aM)] := hl
  have in_X8 : ∀ w ∈ wsX80, w ∈ wsX8_text := by decide +kernel
  have q1 := hts (Cond.fieldLink RX8 7 "ThirdFountainModel" "d" "[I") (List.mem_of_getElem? (i := 1) rfl)
  have q2 := hts (Cond.fieldLink RX8 13 "ThirdFountainModel" "e" "[I") (List.mem_of_getElem? (i := 2) rfl)
  have q5 := hts (Cond.methodLink RX8 189 yX8_copies) (List.mem_of_getElem? (i := 5) rfl)
  have q9 := hts (Cond.methodLink RX8 351 yX8_items) (List.mem_of_getElem? (i := 9) rfl)
  have q3 := hts (Cond.fieldLink RX8 276 "ThirdFountainModel" "taped" "I") (List.mem_of_getElem? (i := 3) rfl)
  have q4 := hts (Cond.fieldLink RX8 306 "ThirdFountainModel" "fault" "I") (List.mem_of_getElem? (i := 4) rfl)
  unfold f_X8_text at h
  refine lv_aload_n hx hb dX8_text_0 rfl (lv_at hl 0 rfl) ?_
  refine va_get (D := D) (ci := 7) (v := .ref aM_d) (C := RX8) (T := TX8) (N := 43) hx hb hts in_X8 hown hK hP 0 rfl rfl 0 (by decide) q1 (fun _ h9 => h9) rfl dX8_text_1 ?_
  refine lv_aload_n hx hb dX8_text_4 rfl (lv_at hl 0 rfl) ?_
  refine va_get (D := D) (ci := 7) (v := .ref aM_e) (C := RX8) (T := TX8) (N := 43) hx hb hts in_X8 hown hK hP 0 rfl rfl 1 (by decide) q2 (fun _ h9 => h9) rfl dX8_text_5 ?_
  obtain ⟨u1, hu1, h⟩ := bd_some h
  refine cl_Sv (rest := []) F hK hP hD hS hA hl (t_X8_copies l D cyI cyJ cyZ cyB cyO aM_d aM_e cM_d cM_e u1 hu1) (va_cwS 2 hts gX8_text_X8_copies rfl rfl rfl (by decide +kernel) ⟨Nat.le_of_ble_eq_true rfl, Nat.le_of_ble_eq_true rfl⟩) [1, 2] [0, 1, 2, 0] [] (w_X8_text cyI cyJ cyZ cyB cyO aM aM_d aM_e aM_tape aM_f aM_kept aM_found aM_came aM_got aM_held aM_off aM_comesUp aM_comesDown aM_path aM_gets aM_gotNow aM_bitsOf aM_sizeOf aM_number aM_passing vM_isKept vM_taped vM_leaked vM_keptAll vM_offAll vM_up vM_down vM_sharesUp vM_sharesDown vM_onUp vM_onDown vM_great vM_triedOff vM_triedLeaked vM_triedKept vM_fitting vM_firstSet vM_inAll vM_inAny vM_at vM_sort vM_from vM_value vM_fault cM_d u1 cM_tape) rfl rfl rfl (by decide +kernel) rfl rfl (Nat.le_of_ble_eq_true rfl) ⟨Nat.zero_le _, Nat.zero_le _⟩ dX8_text_8 (fun H locs hP hD hS => ?_)
  refine lv_aload_n hx hb dX8_text_11 rfl (lv_at hl 0 rfl) ?_
  obtain ⟨u2, hu2, h⟩ := bd_some h
  refine cl_Vi (rest := []) F hK hP hD hS hA hl (t_X8_items l D cyI cyJ cyZ cyB cyO aM aM_tape aM_d aM_e aM_f aM_kept aM_found aM_came aM_got aM_held aM_off aM_comesUp aM_comesDown aM_path aM_gets aM_gotNow aM_bitsOf aM_sizeOf aM_number aM_passing vM_isKept vM_taped vM_leaked vM_keptAll vM_offAll vM_up vM_down vM_sharesUp vM_sharesDown vM_onUp vM_onDown vM_great vM_triedOff vM_triedLeaked vM_triedKept vM_fitting vM_firstSet vM_inAll vM_inAny vM_at vM_sort vM_from vM_value vM_fault cM_tape cM_d u2 hu2) (cwV 0 hts gX8_text_X8_items rfl rfl rfl (by decide +kernel) ⟨Nat.le_of_ble_eq_true rfl, Nat.le_of_ble_eq_true rfl⟩) 0 [0, 3, 1] [1, 3, 0, 2] [] (w_X8_text cyI cyJ cyZ cyB cyO aM aM_d aM_e aM_tape aM_f aM_kept aM_found aM_came aM_got aM_held aM_off aM_comesUp aM_comesDown aM_path aM_gets aM_gotNow aM_bitsOf aM_sizeOf aM_number aM_passing vM_isKept vM_taped vM_leaked vM_keptAll vM_offAll vM_up vM_down vM_sharesUp vM_sharesDown vM_onUp vM_onDown vM_great vM_triedOff vM_triedLeaked vM_triedKept vM_fitting vM_firstSet vM_inAll vM_inAny u2.2.1 u2.2.2.1 u2.2.2.2.1 u2.2.2.2.2.1 u2.2.2.2.2.2.1 u2.2.2.2.2.2.2 u1 cM_tape) rfl rfl rfl rfl rfl (by decide +kernel) rfl rfl (Nat.le_of_ble_eq_true rfl) ⟨Nat.zero_le _, Nat.zero_le _⟩ dX8_text_12 (fun H locs hP hD hS => ?_)
  refine lv_istore_n (lv' := [(1, .int u2.1), (0, .ref aM)]) hx hb dX8_text_15 rfl hl (by decide) rfl (fun ls hl => ?_)
  refine lv_aload_n hx hb dX8_text_16 rfl (lv_at hl 1 rfl) ?_
  refine lv_iconst (v := 0) hx hb dX8_text_17 (by decide) ?_
  refine va_put (D := D) (ci := 7) (v := .int (0 : Int32)) (ty := .int) (C := RX8) (T := TX8) (N := 43) hx hb hts in_X8 tyX8 tyX8_ok nmX8 hown hK hP hD hS 0 rfl rfl 7 (by decide) q3 (fun _ h9 => h9) rfl (by decide +kernel) rfl rfl (Nat.le_of_ble_eq_true rfl) dX8_text_18 (fun H locs hP hD hS => ?_)
  have hP : va_P D vwCl (w_X8_text cyI cyJ cyZ cyB cyO aM aM_d aM_e aM_tape aM_f aM_kept aM_found aM_came aM_got aM_held aM_off aM_comesUp aM_comesDown aM_path aM_gets aM_gotNow aM_bitsOf aM_sizeOf aM_number aM_passing vM_isKept (0 : Int32) vM_leaked vM_keptAll vM_offAll vM_up vM_down vM_sharesUp vM_sharesDown vM_onUp vM_onDown vM_great vM_triedOff vM_triedLeaked vM_triedKept vM_fitting vM_firstSet vM_inAll vM_inAny u2.2.1 u2.2.2.1 u2.2.2.2.1 u2.2.2.2.2.1 u2.2.2.2.2.2.1 u2.2.2.2.2.2.2 u1 cM_tape) H := hP
  have hD : va_D A (w_X8_text cyI cyJ cyZ cyB cyO aM aM_d aM_e aM_tape aM_f aM_kept aM_found aM_came aM_got aM_held aM_off aM_comesUp aM_comesDown aM_path aM_gets aM_gotNow aM_bitsOf aM_sizeOf aM_number aM_passing vM_isKept (0 : Int32) vM_leaked vM_keptAll vM_offAll vM_up vM_down vM_sharesUp vM_sharesDown vM_onUp vM_onDown vM_great vM_triedOff vM_triedLeaked vM_triedKept vM_fitting vM_firstSet vM_inAll vM_inAny u2.2.1 u2.2.2.1 u2.2.2.2.1 u2.2.2.2.2.1 u2.2.2.2.2.2.1 u2.2.2.2.2.2.2 u1 cM_tape) := hD
  refine lv_aload_n hx hb dX8_text_21 rfl (lv_at hl 1 rfl) ?_
  refine va_get (D := D) (ci := 7) (v := .int u2.2.2.2.2.2.1) (C := RX8) (T := TX8) (N := 43) hx hb hts in_X8 hown hK hP 0 rfl rfl 38 (by decide) q4 (fun _ h9 => h9) rfl dX8_text_22 ?_
  refine lv_if_lt (tgt := 46) hx hb dX8_text_25 (by decide) (fun c3 => ?_) (fun c3 => ?_)
  · have h := br_pos c3 h
    refine lv_iload_n hx hb dX8_text_46 rfl (lv_at hl 0 rfl) ?_
    obtain rfl := Option.some.inj h
    exact hret _ _ _ _ _ hP hD hS dX8_text_47 rfl rfl
  · have h := br_neg c3 h
    refine lv_aload_n hx hb dX8_text_28 rfl (lv_at hl 1 rfl) ?_
    refine va_get (D := D) (ci := 7) (v := .ref aM_e) (C := RX8) (T := TX8) (N := 43) hx hb hts in_X8 hown hK hP 0 rfl rfl 1 (by decide) q2 (fun _ h9 => h9) rfl dX8_text_29 ?_
    refine lv_aload_n hx hb dX8_text_32 rfl (lv_at hl 1 rfl) ?_
    refine va_get (D := D) (ci := 7) (v := .ref aM_d) (C := RX8) (T := TX8) (N := 43) hx hb hts in_X8 hown hK hP 0 rfl rfl 0 (by decide) q1 (fun _ h9 => h9) rfl dX8_text_33 ?_
    obtain ⟨u4, hu4, h⟩ := bd_some h
    refine cl_Sv (rest := []) F hK hP hD hS hA hl (t_X8_copies l D cyI cyJ cyZ cyB cyO aM_e aM_d u1 u2.2.2.2.2.2.2 u4 hu4) (va_cwS 2 hts gX8_text_X8_copies rfl rfl rfl (by decide +kernel) ⟨Nat.le_of_ble_eq_true rfl, Nat.le_of_ble_eq_true rfl⟩) [2, 1] [0, 2, 1, 0] [] (w_X8_text cyI cyJ cyZ cyB cyO aM aM_d aM_e aM_tape aM_f aM_kept aM_found aM_came aM_got aM_held aM_off aM_comesUp aM_comesDown aM_path aM_gets aM_gotNow aM_bitsOf aM_sizeOf aM_number aM_passing vM_isKept (0 : Int32) vM_leaked vM_keptAll vM_offAll vM_up vM_down vM_sharesUp vM_sharesDown vM_onUp vM_onDown vM_great vM_triedOff vM_triedLeaked vM_triedKept vM_fitting vM_firstSet vM_inAll vM_inAny u2.2.1 u2.2.2.1 u2.2.2.2.1 u2.2.2.2.2.1 u2.2.2.2.2.2.1 u4 u1 cM_tape) rfl rfl rfl (by decide +kernel) rfl rfl (Nat.le_of_ble_eq_true rfl) ⟨Nat.zero_le _, Nat.zero_le _⟩ dX8_text_36 (fun H locs hP hD hS => ?_)
    refine lv_iconst (v := -1) hx hb dX8_text_39 (by decide) ?_
    refine lv_aload_n hx hb dX8_text_40 rfl (lv_at hl 1 rfl) ?_
    refine va_get (D := D) (ci := 7) (v := .int u2.2.2.2.2.2.1) (C := RX8) (T := TX8) (N := 43) hx hb hts in_X8 hown hK hP 0 rfl rfl 38 (by decide) q4 (fun _ h9 => h9) rfl dX8_text_41 ?_
    refine lv_isub hx hb dX8_text_44 ?_
    obtain rfl := Option.some.inj h
    exact hret _ _ _ _ _ hP hD hS dX8_text_45 rfl rfl
/-! ===== X8_hold ===== -/
def w_X8_hold (cyI cyJ cyZ cyB cyO : ClassId) (aM aM_found aM_d aM_e aM_f aM_kept aM_tape aM_came aM_got aM_held aM_off aM_comesUp aM_comesDown aM_path aM_gets aM_gotNow aM_bitsOf aM_sizeOf aM_number aM_passing : Nat) (vM_isKept : Int32) (vM_taped : Int32) (vM_leaked : Int32) (vM_keptAll : Int32) (vM_offAll : Int32) (vM_up : Int64) (vM_down : Int64) (vM_sharesUp : Int64) (vM_sharesDown : Int64) (vM_onUp : Int64) (vM_onDown : Int64) (vM_great : Int32) (vM_triedOff : Int32) (vM_triedLeaked : Int32) (vM_triedKept : Int32) (vM_fitting : Int32) (vM_firstSet : Int32) (vM_inAll : Int32) (vM_inAny : Int32) (vM_at : Int32) (vM_sort : Int32) (vM_from : Int32) (vM_value : Int64) (vM_fault : Int32) (cM_found : Nat → Int32) (cM_d : Nat → Int32) : va_W := [(aM, .inr (7, [.ref aM_d, .ref aM_e, .ref aM_f, .ref aM_kept, .int vM_isKept, .ref aM_found, .ref aM_tape, .int vM_taped, .ref aM_came, .ref aM_got, .ref aM_held, .ref aM_off, .int vM_leaked, .int vM_keptAll, .int vM_offAll, .ref aM_comesUp, .ref aM_comesDown, .long vM_up, .long vM_down, .long vM_sharesUp, .long vM_sharesDown, .long vM_onUp, .long vM_onDown, .int vM_great, .ref aM_path, .ref aM_gets, .int vM_triedOff, .int vM_triedLeaked, .int vM_triedKept, .ref aM_gotNow, .int vM_fitting, .int vM_firstSet, .int vM_inAll, .int vM_inAny, .int vM_at, .int vM_sort, .int vM_from, .long vM_value, .int vM_fault, .ref aM_bitsOf, .ref aM_sizeOf, .ref aM_number, .ref aM_passing])), (aM_found, .inl (cyI, 7, .inl cM_found)), (aM_d, .inl (cyI, 64, .inl cM_d))]
set_option maxHeartbeats 4000000 in
set_option maxRecDepth 100000 in
theorem t_X8_hold (l : Launch) (D : va_G) (cyI cyJ cyZ cyB cyO : ClassId) (aM aM_found aM_d aM_e aM_f aM_kept aM_tape aM_came aM_got aM_held aM_off aM_comesUp aM_comesDown aM_path aM_gets aM_gotNow aM_bitsOf aM_sizeOf aM_number aM_passing : Nat) (vM_isKept : Int32) (vM_taped : Int32) (vM_leaked : Int32) (vM_keptAll : Int32) (vM_offAll : Int32) (vM_up : Int64) (vM_down : Int64) (vM_sharesUp : Int64) (vM_sharesDown : Int64) (vM_onUp : Int64) (vM_onDown : Int64) (vM_great : Int32) (vM_triedOff : Int32) (vM_triedLeaked : Int32) (vM_triedKept : Int32) (vM_fitting : Int32) (vM_firstSet : Int32) (vM_inAll : Int32) (vM_inAny : Int32) (vM_at : Int32) (vM_sort : Int32) (vM_from : Int32) (vM_value : Int64) (vM_fault : Int32) (cM_found : Nat → Int32) (cM_d : Nat → Int32) (x1 : Int32) (x2 : Int32) (out : Int32 × (Nat → Int32) × (Nat → Int32)) (h : f_X8_hold x1 x2 cM_found cM_d = some out) : Mi l yX8_hold wsX8_hold ({ frames := 1, cells := 0, slots := 0, locals := 25 } : Room) D (tyA cyI cyJ cyZ cyB cyO) [.ref aM, .int x1, .int x2] (w_X8_hold cyI cyJ cyZ cyB cyO aM aM_found aM_d aM_e aM_f aM_kept aM_tape aM_came aM_got aM_held aM_off aM_comesUp aM_comesDown aM_path aM_gets aM_gotNow aM_bitsOf aM_sizeOf aM_number aM_passing vM_isKept vM_taped vM_leaked vM_keptAll vM_offAll vM_up vM_down vM_sharesUp vM_sharesDown vM_onUp vM_onDown vM_great vM_triedOff vM_triedLeaked vM_triedKept vM_fitting vM_firstSet vM_inAll vM_inAny vM_at vM_sort vM_from vM_value vM_fault cM_found cM_d) (w_X8_hold cyI cyJ cyZ cyB cyO aM aM_found aM_d aM_e aM_f aM_kept aM_tape aM_came aM_got aM_held aM_off aM_comesUp aM_comesDown aM_path aM_gets aM_gotNow aM_bitsOf aM_sizeOf aM_number aM_passing vM_isKept vM_taped vM_leaked vM_keptAll vM_offAll vM_up vM_down vM_sharesUp vM_sharesDown vM_onUp vM_onDown vM_great vM_triedOff vM_triedLeaked vM_triedKept vM_fitting vM_firstSet vM_inAll vM_inAny vM_at vM_sort vM_from vM_value vM_fault out.2.1 out.2.2) out.1 := by
  refine Mi.mk (cc := cX8_hold) (maxL := 3) (rt := .int) (own := RX8) (by decide) rfl rfl (Nat.le_of_ble_eq_true rfl) ?_
  intro p e s m args below meth c A Q F hK hP hD hA hret ls hl
  obtain ⟨hx, hb, hml, hown, hts⟩ := id F
  have hS : va_S A s.heap s.heap [] := va_S.rf
  have hl : lv_has ls 3 [(0, .ref aM), (1, .int x1), (2, .int x2)] := hl
  have in_X8 : ∀ w ∈ wsX80, w ∈ wsX8_hold := by decide +kernel
  have q1 := hts (Cond.constantLong RX8 121 (9)) (List.mem_of_getElem? (i := 1) rfl)
  have q4 := hts (Cond.methodLink RX8 70 yX8_in) (List.mem_of_getElem? (i := 4) rfl)
  have q8 := hts (Cond.methodLink RX8 115 yX8_finds) (List.mem_of_getElem? (i := 8) rfl)
  have q2 := hts (Cond.constantLong RX8 354 (-1)) (List.mem_of_getElem? (i := 2) rfl)
  have q3 := hts (Cond.fieldLink RX8 7 "ThirdFountainModel" "d" "[I") (List.mem_of_getElem? (i := 3) rfl)
  unfold f_X8_hold at h
  refine lv_iload_n hx hb dX8_hold_0 rfl (lv_at hl 1 rfl) ?_
  refine lv_i2l hx hb dX8_hold_1 rfl ?_
  refine lv_lconst (v := 0) hx hb dX8_hold_2 (by decide) ?_
  refine lv_ldc2 (v := 9) hx hb hown q1 dX8_hold_3 ?_
  obtain ⟨u1, hu1, h⟩ := bd_some h
  refine cl_Si (rest := []) F hK hP hD hS hA hl (t_X8_in l D cyI cyJ cyZ cyB cyO x1.toInt64 (0 : Int64) (9 : Int64) u1 hu1) (va_cwS 3 hts gX8_hold_X8_in rfl rfl rfl (by decide +kernel) ⟨Nat.le_of_ble_eq_true rfl, Nat.le_of_ble_eq_true rfl⟩) [] [0, 0, 0] [] (w_X8_hold cyI cyJ cyZ cyB cyO aM aM_found aM_d aM_e aM_f aM_kept aM_tape aM_came aM_got aM_held aM_off aM_comesUp aM_comesDown aM_path aM_gets aM_gotNow aM_bitsOf aM_sizeOf aM_number aM_passing vM_isKept vM_taped vM_leaked vM_keptAll vM_offAll vM_up vM_down vM_sharesUp vM_sharesDown vM_onUp vM_onDown vM_great vM_triedOff vM_triedLeaked vM_triedKept vM_fitting vM_firstSet vM_inAll vM_inAny vM_at vM_sort vM_from vM_value vM_fault cM_found cM_d) rfl rfl rfl (by decide +kernel) rfl rfl (Nat.le_of_ble_eq_true rfl) ⟨Nat.zero_le _, Nat.zero_le _⟩ dX8_hold_6 (fun H locs hP hD hS => ?_)
  refine lv_if_eq (tgt := 32) hx hb dX8_hold_9 (by decide) (fun c2 => ?_) (fun c2 => ?_)
  · have h := br_pos c2 h
    refine lv_aload_n hx hb dX8_hold_32 rfl (lv_at hl 0 rfl) ?_
    refine lv_iconst (v := 0) hx hb dX8_hold_33 (by decide) ?_
    obtain ⟨u3, hu3, h⟩ := bd_some h
    refine cl_Vi (rest := []) F hK hP hD hS hA hl (t_X8_finds l D cyI cyJ cyZ cyB cyO aM aM_found aM_d aM_e aM_f aM_kept aM_tape aM_came aM_got aM_held aM_off aM_comesUp aM_comesDown aM_path aM_gets aM_gotNow aM_bitsOf aM_sizeOf aM_number aM_passing vM_isKept vM_taped vM_leaked vM_keptAll vM_offAll vM_up vM_down vM_sharesUp vM_sharesDown vM_onUp vM_onDown vM_great vM_triedOff vM_triedLeaked vM_triedKept vM_fitting vM_firstSet vM_inAll vM_inAny vM_at vM_sort vM_from vM_value vM_fault cM_found (0 : Int32) u3 hu3) (cwV 1 hts gX8_hold_X8_finds rfl rfl rfl (by decide +kernel) ⟨Nat.le_of_ble_eq_true rfl, Nat.le_of_ble_eq_true rfl⟩) 0 [0, 1] [1, 2, 0] [] (w_X8_hold cyI cyJ cyZ cyB cyO aM aM_found aM_d aM_e aM_f aM_kept aM_tape aM_came aM_got aM_held aM_off aM_comesUp aM_comesDown aM_path aM_gets aM_gotNow aM_bitsOf aM_sizeOf aM_number aM_passing vM_isKept vM_taped vM_leaked vM_keptAll vM_offAll vM_up vM_down vM_sharesUp vM_sharesDown vM_onUp vM_onDown vM_great vM_triedOff vM_triedLeaked vM_triedKept vM_fitting vM_firstSet vM_inAll vM_inAny vM_at vM_sort vM_from vM_value vM_fault u3.2 cM_d) rfl rfl rfl rfl rfl (by decide +kernel) rfl rfl (Nat.le_of_ble_eq_true rfl) ⟨Nat.zero_le _, Nat.zero_le _⟩ dX8_hold_34 (fun H locs hP hD hS => ?_)
    obtain rfl := Option.some.inj h
    exact hret _ _ _ _ _ hP hD hS dX8_hold_37 rfl rfl
  · have h := br_neg c2 h
    refine lv_iload_n hx hb dX8_hold_12 rfl (lv_at hl 2 rfl) ?_
    refine lv_i2l hx hb dX8_hold_13 rfl ?_
    refine lv_ldc2 (v := -1) hx hb hown q2 dX8_hold_14 ?_
    refine lv_aload_n hx hb dX8_hold_17 rfl (lv_at hl 0 rfl) ?_
    refine va_get (D := D) (ci := 7) (v := .ref aM_d) (C := RX8) (T := TX8) (N := 43) hx hb hts in_X8 hown hK hP 0 rfl rfl 0 (by decide) q3 (fun _ h9 => h9) rfl dX8_hold_18 ?_
    refine lv_iconst (v := 0) hx hb dX8_hold_21 (by decide) ?_
    refine va_iald hx hb hK hP 2 0 rfl rfl (by unfold vp_in; decide) dX8_hold_22 ?_
    refine lv_iconst (v := 1) hx hb dX8_hold_23 (by decide) ?_
    refine lv_isub hx hb dX8_hold_24 ?_
    refine lv_i2l hx hb dX8_hold_25 rfl ?_
    obtain ⟨u4, hu4, h⟩ := bd_some h
    refine cl_Si (rest := []) F hK hP hD hS hA hl (t_X8_in l D cyI cyJ cyZ cyB cyO x2.toInt64 (-1 : Int64) (((cM_d (0 : Int32).toNatClampNeg) - (1 : Int32)).toInt64) u4 hu4) (va_cwS 3 hts gX8_hold_X8_in rfl rfl rfl (by decide +kernel) ⟨Nat.le_of_ble_eq_true rfl, Nat.le_of_ble_eq_true rfl⟩) [] [0, 0, 0] [] (w_X8_hold cyI cyJ cyZ cyB cyO aM aM_found aM_d aM_e aM_f aM_kept aM_tape aM_came aM_got aM_held aM_off aM_comesUp aM_comesDown aM_path aM_gets aM_gotNow aM_bitsOf aM_sizeOf aM_number aM_passing vM_isKept vM_taped vM_leaked vM_keptAll vM_offAll vM_up vM_down vM_sharesUp vM_sharesDown vM_onUp vM_onDown vM_great vM_triedOff vM_triedLeaked vM_triedKept vM_fitting vM_firstSet vM_inAll vM_inAny vM_at vM_sort vM_from vM_value vM_fault cM_found cM_d) rfl rfl rfl (by decide +kernel) rfl rfl (Nat.le_of_ble_eq_true rfl) ⟨Nat.zero_le _, Nat.zero_le _⟩ dX8_hold_26 (fun H locs hP hD hS => ?_)
    refine lv_if_ne (tgt := 38) hx hb dX8_hold_29 (by decide) (fun c5 => ?_) (fun c5 => ?_)
    · have h := br_neg c5 h
      refine lv_aload_n hx hb dX8_hold_38 rfl (lv_at hl 0 rfl) ?_
      refine va_get (D := D) (ci := 7) (v := .ref aM_d) (C := RX8) (T := TX8) (N := 43) hx hb hts in_X8 hown hK hP 0 rfl rfl 0 (by decide) q3 (fun _ h9 => h9) rfl dX8_hold_39 ?_
      refine lv_bipush (v := 54) hx hb dX8_hold_42 (by decide) ?_
      refine lv_iload_n hx hb dX8_hold_44 rfl (lv_at hl 1 rfl) ?_
      refine lv_iadd hx hb dX8_hold_45 ?_
      refine lv_iload_n hx hb dX8_hold_46 rfl (lv_at hl 2 rfl) ?_
      refine lv_iconst (v := 1) hx hb dX8_hold_47 (by decide) ?_
      refine lv_iadd hx hb dX8_hold_48 ?_
      obtain ⟨g6, h⟩ := gd_some h
      refine va_iast hx hb hK hP hD hS 2 0 rfl rfl g6 dX8_hold_49 (fun H locs hP hD hS => ?_)
      have hP : va_P D vwCl (w_X8_hold cyI cyJ cyZ cyB cyO aM aM_found aM_d aM_e aM_f aM_kept aM_tape aM_came aM_got aM_held aM_off aM_comesUp aM_comesDown aM_path aM_gets aM_gotNow aM_bitsOf aM_sizeOf aM_number aM_passing vM_isKept vM_taped vM_leaked vM_keptAll vM_offAll vM_up vM_down vM_sharesUp vM_sharesDown vM_onUp vM_onDown vM_great vM_triedOff vM_triedLeaked vM_triedKept vM_fitting vM_firstSet vM_inAll vM_inAny vM_at vM_sort vM_from vM_value vM_fault cM_found (upd cM_d ((54 : Int32) + x1).toNatClampNeg (x2 + (1 : Int32)))) H := hP
      have hD : va_D A (w_X8_hold cyI cyJ cyZ cyB cyO aM aM_found aM_d aM_e aM_f aM_kept aM_tape aM_came aM_got aM_held aM_off aM_comesUp aM_comesDown aM_path aM_gets aM_gotNow aM_bitsOf aM_sizeOf aM_number aM_passing vM_isKept vM_taped vM_leaked vM_keptAll vM_offAll vM_up vM_down vM_sharesUp vM_sharesDown vM_onUp vM_onDown vM_great vM_triedOff vM_triedLeaked vM_triedKept vM_fitting vM_firstSet vM_inAll vM_inAny vM_at vM_sort vM_from vM_value vM_fault cM_found (upd cM_d ((54 : Int32) + x1).toNatClampNeg (x2 + (1 : Int32)))) := hD
      refine lv_iconst (v := 1) hx hb dX8_hold_50 (by decide) ?_
      obtain rfl := Option.some.inj h
      exact hret _ _ _ _ _ hP hD hS dX8_hold_51 rfl rfl
    · have h := br_pos c5 h
      refine lv_aload_n hx hb dX8_hold_32 rfl (lv_at hl 0 rfl) ?_
      refine lv_iconst (v := 0) hx hb dX8_hold_33 (by decide) ?_
      obtain ⟨u7, hu7, h⟩ := bd_some h
      refine cl_Vi (rest := []) F hK hP hD hS hA hl (t_X8_finds l D cyI cyJ cyZ cyB cyO aM aM_found aM_d aM_e aM_f aM_kept aM_tape aM_came aM_got aM_held aM_off aM_comesUp aM_comesDown aM_path aM_gets aM_gotNow aM_bitsOf aM_sizeOf aM_number aM_passing vM_isKept vM_taped vM_leaked vM_keptAll vM_offAll vM_up vM_down vM_sharesUp vM_sharesDown vM_onUp vM_onDown vM_great vM_triedOff vM_triedLeaked vM_triedKept vM_fitting vM_firstSet vM_inAll vM_inAny vM_at vM_sort vM_from vM_value vM_fault cM_found (0 : Int32) u7 hu7) (cwV 1 hts gX8_hold_X8_finds rfl rfl rfl (by decide +kernel) ⟨Nat.le_of_ble_eq_true rfl, Nat.le_of_ble_eq_true rfl⟩) 0 [0, 1] [1, 2, 0] [] (w_X8_hold cyI cyJ cyZ cyB cyO aM aM_found aM_d aM_e aM_f aM_kept aM_tape aM_came aM_got aM_held aM_off aM_comesUp aM_comesDown aM_path aM_gets aM_gotNow aM_bitsOf aM_sizeOf aM_number aM_passing vM_isKept vM_taped vM_leaked vM_keptAll vM_offAll vM_up vM_down vM_sharesUp vM_sharesDown vM_onUp vM_onDown vM_great vM_triedOff vM_triedLeaked vM_triedKept vM_fitting vM_firstSet vM_inAll vM_inAny vM_at vM_sort vM_from vM_value vM_fault u7.2 cM_d) rfl rfl rfl rfl rfl (by decide +kernel) rfl rfl (Nat.le_of_ble_eq_true rfl) ⟨Nat.zero_le _, Nat.zero_le _⟩ dX8_hold_34 (fun H locs hP hD hS => ?_)
      obtain rfl := Option.some.inj h
      exact hret _ _ _ _ _ hP hD hS dX8_hold_37 rfl rfl
/-! ===== X8_above ===== -/
def w_X8_above (cyI cyJ cyZ cyB cyO : ClassId) : va_W := []
set_option maxHeartbeats 4000000 in
set_option maxRecDepth 100000 in
theorem t_X8_above (l : Launch) (D : va_G) (cyI cyJ cyZ cyB cyO : ClassId) (x0 : Int32) (out : Int32) (h : f_X8_above x0 = some out) : Mi l yX8_above wsX8_above ({ frames := 0, cells := 0, slots := 0, locals := 0 } : Room) D (tyA cyI cyJ cyZ cyB cyO) [.int x0] (w_X8_above cyI cyJ cyZ cyB cyO ) (w_X8_above cyI cyJ cyZ cyB cyO ) out := by
  refine Mi.mk (cc := cX8_above) (maxL := 1) (rt := .int) (own := RX8) (by decide) rfl rfl (Nat.le_of_ble_eq_true rfl) ?_
  intro p e s m args below meth c A Q F hK hP hD hA hret ls hl
  obtain ⟨hx, hb, hml, hown, hts⟩ := id F
  have hS : va_S A s.heap s.heap [] := va_S.rf
  have hl : lv_has ls 1 [(0, .int x0)] := hl
  unfold f_X8_above at h
  refine lv_iload_n hx hb dX8_above_0 rfl (lv_at hl 0 rfl) ?_
  refine lv_iconst (v := 3) hx hb dX8_above_1 (by decide) ?_
  refine lv_icmp_ne (tgt := 9) hx hb dX8_above_2 (by decide) (fun c1 => ?_) (fun c1 => ?_)
  · have h := br_neg c1 h
    refine lv_iload_n hx hb dX8_above_9 rfl (lv_at hl 0 rfl) ?_
    refine lv_iconst (v := 4) hx hb dX8_above_10 (by decide) ?_
    refine lv_icmp_ne (tgt := 18) hx hb dX8_above_11 (by decide) (fun c2 => ?_) (fun c2 => ?_)
    · have h := br_neg c2 h
      refine lv_iload_n hx hb dX8_above_18 rfl (lv_at hl 0 rfl) ?_
      refine lv_bipush (v := 6) hx hb dX8_above_19 (by decide) ?_
      refine lv_icmp_ne (tgt := 28) hx hb dX8_above_21 (by decide) (fun c3 => ?_) (fun c3 => ?_)
      · have h := br_neg c3 h
        refine lv_iconst (v := 0) hx hb dX8_above_28 (by decide) ?_
        obtain rfl := Option.some.inj h
        exact hret _ _ _ _ _ hP hD hS dX8_above_29 rfl rfl
      · have h := br_pos c3 h
        refine lv_iconst (v := 5) hx hb dX8_above_24 (by decide) ?_
        refine lv_goto (tgt := 29) hx hb dX8_above_25 (by decide) ?_
        obtain rfl := Option.some.inj h
        exact hret _ _ _ _ _ hP hD hS dX8_above_29 rfl rfl
    · have h := br_pos c2 h
      refine lv_iconst (v := 2) hx hb dX8_above_14 (by decide) ?_
      refine lv_goto (tgt := 29) hx hb dX8_above_15 (by decide) ?_
      obtain rfl := Option.some.inj h
      exact hret _ _ _ _ _ hP hD hS dX8_above_29 rfl rfl
  · have h := br_pos c1 h
    refine lv_iconst (v := 1) hx hb dX8_above_5 (by decide) ?_
    refine lv_goto (tgt := 29) hx hb dX8_above_6 (by decide) ?_
    obtain rfl := Option.some.inj h
    exact hret _ _ _ _ _ hP hD hS dX8_above_29 rfl rfl
/-! ===== X8_as ===== -/
def w_X8_as (cyI cyJ cyZ cyB cyO : ClassId) (aM aM_found aM_d aM_e aM_f aM_kept aM_tape aM_came aM_got aM_held aM_off aM_comesUp aM_comesDown aM_path aM_gets aM_gotNow aM_bitsOf aM_sizeOf aM_number aM_passing : Nat) (vM_isKept : Int32) (vM_taped : Int32) (vM_leaked : Int32) (vM_keptAll : Int32) (vM_offAll : Int32) (vM_up : Int64) (vM_down : Int64) (vM_sharesUp : Int64) (vM_sharesDown : Int64) (vM_onUp : Int64) (vM_onDown : Int64) (vM_great : Int32) (vM_triedOff : Int32) (vM_triedLeaked : Int32) (vM_triedKept : Int32) (vM_fitting : Int32) (vM_firstSet : Int32) (vM_inAll : Int32) (vM_inAny : Int32) (vM_at : Int32) (vM_sort : Int32) (vM_from : Int32) (vM_value : Int64) (vM_fault : Int32) (cM_found : Nat → Int32) (cM_d : Nat → Int32) : va_W := [(aM, .inr (7, [.ref aM_d, .ref aM_e, .ref aM_f, .ref aM_kept, .int vM_isKept, .ref aM_found, .ref aM_tape, .int vM_taped, .ref aM_came, .ref aM_got, .ref aM_held, .ref aM_off, .int vM_leaked, .int vM_keptAll, .int vM_offAll, .ref aM_comesUp, .ref aM_comesDown, .long vM_up, .long vM_down, .long vM_sharesUp, .long vM_sharesDown, .long vM_onUp, .long vM_onDown, .int vM_great, .ref aM_path, .ref aM_gets, .int vM_triedOff, .int vM_triedLeaked, .int vM_triedKept, .ref aM_gotNow, .int vM_fitting, .int vM_firstSet, .int vM_inAll, .int vM_inAny, .int vM_at, .int vM_sort, .int vM_from, .long vM_value, .int vM_fault, .ref aM_bitsOf, .ref aM_sizeOf, .ref aM_number, .ref aM_passing])), (aM_found, .inl (cyI, 7, .inl cM_found)), (aM_d, .inl (cyI, 64, .inl cM_d))]
set_option maxHeartbeats 4000000 in
set_option maxRecDepth 100000 in
theorem t_X8_as (l : Launch) (D : va_G) (cyI cyJ cyZ cyB cyO : ClassId) (aM aM_found aM_d aM_e aM_f aM_kept aM_tape aM_came aM_got aM_held aM_off aM_comesUp aM_comesDown aM_path aM_gets aM_gotNow aM_bitsOf aM_sizeOf aM_number aM_passing : Nat) (vM_isKept : Int32) (vM_taped : Int32) (vM_leaked : Int32) (vM_keptAll : Int32) (vM_offAll : Int32) (vM_up : Int64) (vM_down : Int64) (vM_sharesUp : Int64) (vM_sharesDown : Int64) (vM_onUp : Int64) (vM_onDown : Int64) (vM_great : Int32) (vM_triedOff : Int32) (vM_triedLeaked : Int32) (vM_triedKept : Int32) (vM_fitting : Int32) (vM_firstSet : Int32) (vM_inAll : Int32) (vM_inAny : Int32) (vM_at : Int32) (vM_sort : Int32) (vM_from : Int32) (vM_value : Int64) (vM_fault : Int32) (cM_found : Nat → Int32) (cM_d : Nat → Int32) (x1 : Int32) (x2 : Int32) (out : Int32 × (Nat → Int32)) (h : f_X8_as x1 x2 cM_found cM_d = some out) : Mi l yX8_as wsX8_as ({ frames := 1, cells := 0, slots := 0, locals := 25 } : Room) D (tyA cyI cyJ cyZ cyB cyO) [.ref aM, .int x1, .int x2] (w_X8_as cyI cyJ cyZ cyB cyO aM aM_found aM_d aM_e aM_f aM_kept aM_tape aM_came aM_got aM_held aM_off aM_comesUp aM_comesDown aM_path aM_gets aM_gotNow aM_bitsOf aM_sizeOf aM_number aM_passing vM_isKept vM_taped vM_leaked vM_keptAll vM_offAll vM_up vM_down vM_sharesUp vM_sharesDown vM_onUp vM_onDown vM_great vM_triedOff vM_triedLeaked vM_triedKept vM_fitting vM_firstSet vM_inAll vM_inAny vM_at vM_sort vM_from vM_value vM_fault cM_found cM_d) (w_X8_as cyI cyJ cyZ cyB cyO aM aM_found aM_d aM_e aM_f aM_kept aM_tape aM_came aM_got aM_held aM_off aM_comesUp aM_comesDown aM_path aM_gets aM_gotNow aM_bitsOf aM_sizeOf aM_number aM_passing vM_isKept vM_taped vM_leaked vM_keptAll vM_offAll vM_up vM_down vM_sharesUp vM_sharesDown vM_onUp vM_onDown vM_great vM_triedOff vM_triedLeaked vM_triedKept vM_fitting vM_firstSet vM_inAll vM_inAny vM_at vM_sort vM_from vM_value vM_fault out.2 cM_d) out.1 := by
  refine Mi.mk (cc := cX8_as) (maxL := 5) (rt := .int) (own := RX8) (by decide) rfl rfl (Nat.le_of_ble_eq_true rfl) ?_
  intro p e s m args below meth c A Q F hK hP hD hA hret ls hl
  obtain ⟨hx, hb, hml, hown, hts⟩ := id F
  have hS : va_S A s.heap s.heap [] := va_S.rf
  have hl : lv_has ls 5 [(0, .ref aM), (1, .int x1), (2, .int x2)] := hl
  have in_X8 : ∀ w ∈ wsX80, w ∈ wsX8_as := by decide +kernel
  have q1 := hts (Cond.constantLong RX8 121 (9)) (List.mem_of_getElem? (i := 1) rfl)
  have q4 := hts (Cond.methodLink RX8 70 yX8_in) (List.mem_of_getElem? (i := 4) rfl)
  have q8 := hts (Cond.methodLink RX8 115 yX8_finds) (List.mem_of_getElem? (i := 8) rfl)
  have q2 := hts (Cond.constantLong RX8 113 (6)) (List.mem_of_getElem? (i := 2) rfl)
  have q3 := hts (Cond.fieldLink RX8 7 "ThirdFountainModel" "d" "[I") (List.mem_of_getElem? (i := 3) rfl)
  have q14 := hts (Cond.methodLink RX8 74 yX8_its) (List.mem_of_getElem? (i := 14) rfl)
  have q18 := hts (Cond.methodLink RX8 356 yX8_above) (List.mem_of_getElem? (i := 18) rfl)
  unfold f_X8_as at h
  refine lv_iload_n hx hb dX8_as_0 rfl (lv_at hl 1 rfl) ?_
  refine lv_i2l hx hb dX8_as_1 rfl ?_
  refine lv_lconst (v := 0) hx hb dX8_as_2 (by decide) ?_
  refine lv_ldc2 (v := 9) hx hb hown q1 dX8_as_3 ?_
  obtain ⟨u1, hu1, h⟩ := bd_some h
  refine cl_Si (rest := []) F hK hP hD hS hA hl (t_X8_in l D cyI cyJ cyZ cyB cyO x1.toInt64 (0 : Int64) (9 : Int64) u1 hu1) (va_cwS 3 hts gX8_as_X8_in rfl rfl rfl (by decide +kernel) ⟨Nat.le_of_ble_eq_true rfl, Nat.le_of_ble_eq_true rfl⟩) [] [0, 0, 0] [] (w_X8_as cyI cyJ cyZ cyB cyO aM aM_found aM_d aM_e aM_f aM_kept aM_tape aM_came aM_got aM_held aM_off aM_comesUp aM_comesDown aM_path aM_gets aM_gotNow aM_bitsOf aM_sizeOf aM_number aM_passing vM_isKept vM_taped vM_leaked vM_keptAll vM_offAll vM_up vM_down vM_sharesUp vM_sharesDown vM_onUp vM_onDown vM_great vM_triedOff vM_triedLeaked vM_triedKept vM_fitting vM_firstSet vM_inAll vM_inAny vM_at vM_sort vM_from vM_value vM_fault cM_found cM_d) rfl rfl rfl (by decide +kernel) rfl rfl (Nat.le_of_ble_eq_true rfl) ⟨Nat.zero_le _, Nat.zero_le _⟩ dX8_as_6 (fun H locs hP hD hS => ?_)
  refine lv_if_eq (tgt := 24) hx hb dX8_as_9 (by decide) (fun c2 => ?_) (fun c2 => ?_)
  · have h := br_pos c2 h
    refine lv_aload_n hx hb dX8_as_24 rfl (lv_at hl 0 rfl) ?_
    refine lv_iconst (v := 0) hx hb dX8_as_25 (by decide) ?_
    obtain ⟨u3, hu3, h⟩ := bd_some h
    refine cl_Vi (rest := []) F hK hP hD hS hA hl (t_X8_finds l D cyI cyJ cyZ cyB cyO aM aM_found aM_d aM_e aM_f aM_kept aM_tape aM_came aM_got aM_held aM_off aM_comesUp aM_comesDown aM_path aM_gets aM_gotNow aM_bitsOf aM_sizeOf aM_number aM_passing vM_isKept vM_taped vM_leaked vM_keptAll vM_offAll vM_up vM_down vM_sharesUp vM_sharesDown vM_onUp vM_onDown vM_great vM_triedOff vM_triedLeaked vM_triedKept vM_fitting vM_firstSet vM_inAll vM_inAny vM_at vM_sort vM_from vM_value vM_fault cM_found (0 : Int32) u3 hu3) (cwV 1 hts gX8_as_X8_finds rfl rfl rfl (by decide +kernel) ⟨Nat.le_of_ble_eq_true rfl, Nat.le_of_ble_eq_true rfl⟩) 0 [0, 1] [1, 2, 0] [] (w_X8_as cyI cyJ cyZ cyB cyO aM aM_found aM_d aM_e aM_f aM_kept aM_tape aM_came aM_got aM_held aM_off aM_comesUp aM_comesDown aM_path aM_gets aM_gotNow aM_bitsOf aM_sizeOf aM_number aM_passing vM_isKept vM_taped vM_leaked vM_keptAll vM_offAll vM_up vM_down vM_sharesUp vM_sharesDown vM_onUp vM_onDown vM_great vM_triedOff vM_triedLeaked vM_triedKept vM_fitting vM_firstSet vM_inAll vM_inAny vM_at vM_sort vM_from vM_value vM_fault u3.2 cM_d) rfl rfl rfl rfl rfl (by decide +kernel) rfl rfl (Nat.le_of_ble_eq_true rfl) ⟨Nat.zero_le _, Nat.zero_le _⟩ dX8_as_26 (fun H locs hP hD hS => ?_)
    obtain rfl := Option.some.inj h
    exact hret _ _ _ _ _ hP hD hS dX8_as_29 rfl rfl
  · have h := br_neg c2 h
    refine lv_iload_n hx hb dX8_as_12 rfl (lv_at hl 2 rfl) ?_
    refine lv_i2l hx hb dX8_as_13 rfl ?_
    refine lv_lconst (v := 0) hx hb dX8_as_14 (by decide) ?_
    refine lv_ldc2 (v := 6) hx hb hown q2 dX8_as_15 ?_
    obtain ⟨u4, hu4, h⟩ := bd_some h
    refine cl_Si (rest := []) F hK hP hD hS hA hl (t_X8_in l D cyI cyJ cyZ cyB cyO x2.toInt64 (0 : Int64) (6 : Int64) u4 hu4) (va_cwS 3 hts gX8_as_X8_in rfl rfl rfl (by decide +kernel) ⟨Nat.le_of_ble_eq_true rfl, Nat.le_of_ble_eq_true rfl⟩) [] [0, 0, 0] [] (w_X8_as cyI cyJ cyZ cyB cyO aM aM_found aM_d aM_e aM_f aM_kept aM_tape aM_came aM_got aM_held aM_off aM_comesUp aM_comesDown aM_path aM_gets aM_gotNow aM_bitsOf aM_sizeOf aM_number aM_passing vM_isKept vM_taped vM_leaked vM_keptAll vM_offAll vM_up vM_down vM_sharesUp vM_sharesDown vM_onUp vM_onDown vM_great vM_triedOff vM_triedLeaked vM_triedKept vM_fitting vM_firstSet vM_inAll vM_inAny vM_at vM_sort vM_from vM_value vM_fault cM_found cM_d) rfl rfl rfl (by decide +kernel) rfl rfl (Nat.le_of_ble_eq_true rfl) ⟨Nat.zero_le _, Nat.zero_le _⟩ dX8_as_18 (fun H locs hP hD hS => ?_)
    refine lv_if_ne (tgt := 30) hx hb dX8_as_21 (by decide) (fun c5 => ?_) (fun c5 => ?_)
    · have h := br_neg c5 h
      refine lv_aload_n hx hb dX8_as_30 rfl (lv_at hl 0 rfl) ?_
      refine va_get (D := D) (ci := 7) (v := .ref aM_d) (C := RX8) (T := TX8) (N := 43) hx hb hts in_X8 hown hK hP 0 rfl rfl 0 (by decide) q3 (fun _ h9 => h9) rfl dX8_as_31 ?_
      refine lv_bipush (v := 54) hx hb dX8_as_34 (by decide) ?_
      refine lv_iload_n hx hb dX8_as_36 rfl (lv_at hl 1 rfl) ?_
      refine lv_iadd hx hb dX8_as_37 ?_
      obtain ⟨g6, h⟩ := gd_some h
      refine va_iald hx hb hK hP 2 0 rfl rfl g6 dX8_as_38 ?_
      refine lv_if_ne (tgt := 48) hx hb dX8_as_39 (by decide) (fun c7 => ?_) (fun c7 => ?_)
      · have h := br_neg c7 h
        refine lv_aload_n hx hb dX8_as_48 rfl (lv_at hl 0 rfl) ?_
        refine va_get (D := D) (ci := 7) (v := .ref aM_d) (C := RX8) (T := TX8) (N := 43) hx hb hts in_X8 hown hK hP 0 rfl rfl 0 (by decide) q3 (fun _ h9 => h9) rfl dX8_as_49 ?_
        refine lv_bipush (v := 54) hx hb dX8_as_52 (by decide) ?_
        refine lv_iload_n hx hb dX8_as_54 rfl (lv_at hl 1 rfl) ?_
        refine lv_iadd hx hb dX8_as_55 ?_
        obtain ⟨g8, h⟩ := gd_some h
        refine va_iald hx hb hK hP 2 0 rfl rfl g8 dX8_as_56 ?_
        refine lv_iconst (v := 1) hx hb dX8_as_57 (by decide) ?_
        refine lv_isub hx hb dX8_as_58 ?_
        refine lv_topi (fun z9 ez9 => ?_)
        have h := nm_at ez9 h
        refine lv_istore_n (lv' := [(3, .int z9), (0, .ref aM), (1, .int x1), (2, .int x2)]) hx hb dX8_as_59 rfl hl (by decide) rfl (fun ls hl => ?_)
        refine lv_aload_n hx hb dX8_as_60 rfl (lv_at hl 1 rfl) ?_
        refine lv_iload_n hx hb dX8_as_61 rfl (lv_at hl 0 rfl) ?_
        refine lv_iconst (v := 0) hx hb dX8_as_62 (by decide) ?_
        obtain ⟨u10, hu10, h⟩ := bd_some h
        refine cl_Vi (rest := []) F hK hP hD hS hA hl (t_X8_its l D cyI cyJ cyZ cyB cyO aM aM_d aM_e aM_f aM_kept aM_found aM_tape aM_came aM_got aM_held aM_off aM_comesUp aM_comesDown aM_path aM_gets aM_gotNow aM_bitsOf aM_sizeOf aM_number aM_passing vM_isKept vM_taped vM_leaked vM_keptAll vM_offAll vM_up vM_down vM_sharesUp vM_sharesDown vM_onUp vM_onDown vM_great vM_triedOff vM_triedLeaked vM_triedKept vM_fitting vM_firstSet vM_inAll vM_inAny vM_at vM_sort vM_from vM_value vM_fault cM_d z9 (0 : Int32) u10 hu10) (cwV 2 hts gX8_as_X8_its rfl rfl rfl (by decide +kernel) ⟨Nat.le_of_ble_eq_true rfl, Nat.le_of_ble_eq_true rfl⟩) 0 [0, 2] [1, 0, 2] [] (w_X8_as cyI cyJ cyZ cyB cyO aM aM_found aM_d aM_e aM_f aM_kept aM_tape aM_came aM_got aM_held aM_off aM_comesUp aM_comesDown aM_path aM_gets aM_gotNow aM_bitsOf aM_sizeOf aM_number aM_passing vM_isKept vM_taped vM_leaked vM_keptAll vM_offAll vM_up vM_down vM_sharesUp vM_sharesDown vM_onUp vM_onDown vM_great vM_triedOff vM_triedLeaked vM_triedKept vM_fitting vM_firstSet vM_inAll vM_inAny vM_at vM_sort vM_from vM_value vM_fault cM_found cM_d) rfl rfl rfl rfl rfl (by decide +kernel) rfl rfl (Nat.le_of_ble_eq_true rfl) ⟨Nat.zero_le _, Nat.zero_le _⟩ dX8_as_63 (fun H locs hP hD hS => ?_)
        refine lv_istore (lv' := [(4, .int u10), (3, .int z9), (0, .ref aM), (1, .int x1), (2, .int x2)]) hx hb dX8_as_66 hl (by decide) rfl (fun ls hl => ?_)
        refine lv_iload_n hx hb dX8_as_68 rfl (lv_at hl 4 rfl) ?_
        refine lv_if_eq (tgt := 87) hx hb dX8_as_69 (by decide) (fun c11 => ?_) (fun c11 => ?_)
        · have h := br_pos c11 h
          refine lv_iload_n hx hb dX8_as_87 rfl (lv_at hl 1 rfl) ?_
          refine lv_goto (tgt := 96) hx hb dX8_as_88 (by decide) ?_
          obtain rfl := Option.some.inj h
          exact hret _ _ _ _ _ hP hD hS dX8_as_96 rfl rfl
        · have h := br_neg c11 h
          refine lv_iload_n hx hb dX8_as_72 rfl (lv_at hl 4 rfl) ?_
          refine lv_iload hx hb dX8_as_73 (lv_at hl 0 rfl) ?_
          refine lv_icmp_eq (tgt := 87) hx hb dX8_as_75 (by decide) (fun c12 => ?_) (fun c12 => ?_)
          · have h := br_pos c12 h
            refine lv_iload_n hx hb dX8_as_87 rfl (lv_at hl 1 rfl) ?_
            refine lv_goto (tgt := 96) hx hb dX8_as_88 (by decide) ?_
            obtain rfl := Option.some.inj h
            exact hret _ _ _ _ _ hP hD hS dX8_as_96 rfl rfl
          · have h := br_neg c12 h
            refine lv_iload_n hx hb dX8_as_78 rfl (lv_at hl 4 rfl) ?_
            refine lv_iload hx hb dX8_as_79 (lv_at hl 0 rfl) ?_
            obtain ⟨u13, hu13, h⟩ := bd_some h
            refine cl_Si (rest := [.int x2]) F hK hP hD hS hA hl (t_X8_above l D cyI cyJ cyZ cyB cyO u10 u13 hu13) (va_cwS 1 hts gX8_as_X8_above rfl rfl rfl (by decide +kernel) ⟨Nat.le_of_ble_eq_true rfl, Nat.le_of_ble_eq_true rfl⟩) [] [0, 0, 0] [] (w_X8_as cyI cyJ cyZ cyB cyO aM aM_found aM_d aM_e aM_f aM_kept aM_tape aM_came aM_got aM_held aM_off aM_comesUp aM_comesDown aM_path aM_gets aM_gotNow aM_bitsOf aM_sizeOf aM_number aM_passing vM_isKept vM_taped vM_leaked vM_keptAll vM_offAll vM_up vM_down vM_sharesUp vM_sharesDown vM_onUp vM_onDown vM_great vM_triedOff vM_triedLeaked vM_triedKept vM_fitting vM_firstSet vM_inAll vM_inAny vM_at vM_sort vM_from vM_value vM_fault cM_found cM_d) rfl rfl rfl (by decide +kernel) rfl rfl (Nat.le_of_ble_eq_true rfl) ⟨Nat.zero_le _, Nat.zero_le _⟩ dX8_as_81 (fun H locs hP hD hS => ?_)
            refine lv_icmp_ne (tgt := 91) hx hb dX8_as_84 (by decide) (fun c14 => ?_) (fun c14 => ?_)
            · have h := br_neg c14 h
              refine lv_aload_n hx hb dX8_as_91 rfl (lv_at hl 2 rfl) ?_
              refine lv_iconst (v := 2) hx hb dX8_as_92 (by decide) ?_
              obtain ⟨u15, hu15, h⟩ := bd_some h
              refine cl_Vi (rest := []) F hK hP hD hS hA hl (t_X8_finds l D cyI cyJ cyZ cyB cyO aM aM_found aM_d aM_e aM_f aM_kept aM_tape aM_came aM_got aM_held aM_off aM_comesUp aM_comesDown aM_path aM_gets aM_gotNow aM_bitsOf aM_sizeOf aM_number aM_passing vM_isKept vM_taped vM_leaked vM_keptAll vM_offAll vM_up vM_down vM_sharesUp vM_sharesDown vM_onUp vM_onDown vM_great vM_triedOff vM_triedLeaked vM_triedKept vM_fitting vM_firstSet vM_inAll vM_inAny vM_at vM_sort vM_from vM_value vM_fault cM_found (2 : Int32) u15 hu15) (cwV 1 hts gX8_as_X8_finds rfl rfl rfl (by decide +kernel) ⟨Nat.le_of_ble_eq_true rfl, Nat.le_of_ble_eq_true rfl⟩) 0 [0, 1] [1, 2, 0] [] (w_X8_as cyI cyJ cyZ cyB cyO aM aM_found aM_d aM_e aM_f aM_kept aM_tape aM_came aM_got aM_held aM_off aM_comesUp aM_comesDown aM_path aM_gets aM_gotNow aM_bitsOf aM_sizeOf aM_number aM_passing vM_isKept vM_taped vM_leaked vM_keptAll vM_offAll vM_up vM_down vM_sharesUp vM_sharesDown vM_onUp vM_onDown vM_great vM_triedOff vM_triedLeaked vM_triedKept vM_fitting vM_firstSet vM_inAll vM_inAny vM_at vM_sort vM_from vM_value vM_fault u15.2 cM_d) rfl rfl rfl rfl rfl (by decide +kernel) rfl rfl (Nat.le_of_ble_eq_true rfl) ⟨Nat.zero_le _, Nat.zero_le _⟩ dX8_as_93 (fun H locs hP hD hS => ?_)
              obtain rfl := Option.some.inj h
              exact hret _ _ _ _ _ hP hD hS dX8_as_96 rfl rfl
            · have h := br_pos c14 h
              refine lv_iload_n hx hb dX8_as_87 rfl (lv_at hl 1 rfl) ?_
              refine lv_goto (tgt := 96) hx hb dX8_as_88 (by decide) ?_
              obtain rfl := Option.some.inj h
              exact hret _ _ _ _ _ hP hD hS dX8_as_96 rfl rfl
      · have h := br_pos c7 h
        refine lv_aload_n hx hb dX8_as_42 rfl (lv_at hl 0 rfl) ?_
        refine lv_iconst (v := 5) hx hb dX8_as_43 (by decide) ?_
        obtain ⟨u16, hu16, h⟩ := bd_some h
        refine cl_Vi (rest := []) F hK hP hD hS hA hl (t_X8_finds l D cyI cyJ cyZ cyB cyO aM aM_found aM_d aM_e aM_f aM_kept aM_tape aM_came aM_got aM_held aM_off aM_comesUp aM_comesDown aM_path aM_gets aM_gotNow aM_bitsOf aM_sizeOf aM_number aM_passing vM_isKept vM_taped vM_leaked vM_keptAll vM_offAll vM_up vM_down vM_sharesUp vM_sharesDown vM_onUp vM_onDown vM_great vM_triedOff vM_triedLeaked vM_triedKept vM_fitting vM_firstSet vM_inAll vM_inAny vM_at vM_sort vM_from vM_value vM_fault cM_found (5 : Int32) u16 hu16) (cwV 1 hts gX8_as_X8_finds rfl rfl rfl (by decide +kernel) ⟨Nat.le_of_ble_eq_true rfl, Nat.le_of_ble_eq_true rfl⟩) 0 [0, 1] [1, 2, 0] [] (w_X8_as cyI cyJ cyZ cyB cyO aM aM_found aM_d aM_e aM_f aM_kept aM_tape aM_came aM_got aM_held aM_off aM_comesUp aM_comesDown aM_path aM_gets aM_gotNow aM_bitsOf aM_sizeOf aM_number aM_passing vM_isKept vM_taped vM_leaked vM_keptAll vM_offAll vM_up vM_down vM_sharesUp vM_sharesDown vM_onUp vM_onDown vM_great vM_triedOff vM_triedLeaked vM_triedKept vM_fitting vM_firstSet vM_inAll vM_inAny vM_at vM_sort vM_from vM_value vM_fault u16.2 cM_d) rfl rfl rfl rfl rfl (by decide +kernel) rfl rfl (Nat.le_of_ble_eq_true rfl) ⟨Nat.zero_le _, Nat.zero_le _⟩ dX8_as_44 (fun H locs hP hD hS => ?_)
        obtain rfl := Option.some.inj h
        exact hret _ _ _ _ _ hP hD hS dX8_as_47 rfl rfl
    · have h := br_pos c5 h
      refine lv_aload_n hx hb dX8_as_24 rfl (lv_at hl 0 rfl) ?_
      refine lv_iconst (v := 0) hx hb dX8_as_25 (by decide) ?_
      obtain ⟨u17, hu17, h⟩ := bd_some h
      refine cl_Vi (rest := []) F hK hP hD hS hA hl (t_X8_finds l D cyI cyJ cyZ cyB cyO aM aM_found aM_d aM_e aM_f aM_kept aM_tape aM_came aM_got aM_held aM_off aM_comesUp aM_comesDown aM_path aM_gets aM_gotNow aM_bitsOf aM_sizeOf aM_number aM_passing vM_isKept vM_taped vM_leaked vM_keptAll vM_offAll vM_up vM_down vM_sharesUp vM_sharesDown vM_onUp vM_onDown vM_great vM_triedOff vM_triedLeaked vM_triedKept vM_fitting vM_firstSet vM_inAll vM_inAny vM_at vM_sort vM_from vM_value vM_fault cM_found (0 : Int32) u17 hu17) (cwV 1 hts gX8_as_X8_finds rfl rfl rfl (by decide +kernel) ⟨Nat.le_of_ble_eq_true rfl, Nat.le_of_ble_eq_true rfl⟩) 0 [0, 1] [1, 2, 0] [] (w_X8_as cyI cyJ cyZ cyB cyO aM aM_found aM_d aM_e aM_f aM_kept aM_tape aM_came aM_got aM_held aM_off aM_comesUp aM_comesDown aM_path aM_gets aM_gotNow aM_bitsOf aM_sizeOf aM_number aM_passing vM_isKept vM_taped vM_leaked vM_keptAll vM_offAll vM_up vM_down vM_sharesUp vM_sharesDown vM_onUp vM_onDown vM_great vM_triedOff vM_triedLeaked vM_triedKept vM_fitting vM_firstSet vM_inAll vM_inAny vM_at vM_sort vM_from vM_value vM_fault u17.2 cM_d) rfl rfl rfl rfl rfl (by decide +kernel) rfl rfl (Nat.le_of_ble_eq_true rfl) ⟨Nat.zero_le _, Nat.zero_le _⟩ dX8_as_26 (fun H locs hP hD hS => ?_)
      obtain rfl := Option.some.inj h
      exact hret _ _ _ _ _ hP hD hS dX8_as_29 rfl rfl
/-! ===== X8_sheet ===== -/
def w_X8_sheet (cyI cyJ cyZ cyB cyO : ClassId) (aM aM_found aM_bitsOf aM_sizeOf aM_number aM_d aM_e aM_f aM_kept aM_tape aM_came aM_got aM_held aM_off aM_comesUp aM_comesDown aM_path aM_gets aM_gotNow aM_passing : Nat) (vM_isKept : Int32) (vM_taped : Int32) (vM_leaked : Int32) (vM_keptAll : Int32) (vM_offAll : Int32) (vM_up : Int64) (vM_down : Int64) (vM_sharesUp : Int64) (vM_sharesDown : Int64) (vM_onUp : Int64) (vM_onDown : Int64) (vM_great : Int32) (vM_triedOff : Int32) (vM_triedLeaked : Int32) (vM_triedKept : Int32) (vM_fitting : Int32) (vM_firstSet : Int32) (vM_inAll : Int32) (vM_inAny : Int32) (vM_at : Int32) (vM_sort : Int32) (vM_from : Int32) (vM_value : Int64) (vM_fault : Int32) (cM_found : Nat → Int32) (cM_bitsOf : Nat → Int32) (cM_sizeOf : Nat → Int32) (cM_number : Nat → Int32) : va_W := [(aM, .inr (7, [.ref aM_d, .ref aM_e, .ref aM_f, .ref aM_kept, .int vM_isKept, .ref aM_found, .ref aM_tape, .int vM_taped, .ref aM_came, .ref aM_got, .ref aM_held, .ref aM_off, .int vM_leaked, .int vM_keptAll, .int vM_offAll, .ref aM_comesUp, .ref aM_comesDown, .long vM_up, .long vM_down, .long vM_sharesUp, .long vM_sharesDown, .long vM_onUp, .long vM_onDown, .int vM_great, .ref aM_path, .ref aM_gets, .int vM_triedOff, .int vM_triedLeaked, .int vM_triedKept, .ref aM_gotNow, .int vM_fitting, .int vM_firstSet, .int vM_inAll, .int vM_inAny, .int vM_at, .int vM_sort, .int vM_from, .long vM_value, .int vM_fault, .ref aM_bitsOf, .ref aM_sizeOf, .ref aM_number, .ref aM_passing])), (aM_found, .inl (cyI, 7, .inl cM_found)), (aM_bitsOf, .inl (cyI, 4, .inl cM_bitsOf)), (aM_sizeOf, .inl (cyI, 4, .inl cM_sizeOf)), (aM_number, .inl (cyI, 160, .inl cM_number))]
set_option maxHeartbeats 4000000 in
set_option maxRecDepth 100000 in
theorem t_X8_sheet (l : Launch) (D : va_G) (cyI cyJ cyZ cyB cyO : ClassId) (aM aM_found aM_bitsOf aM_sizeOf aM_number aM_d aM_e aM_f aM_kept aM_tape aM_came aM_got aM_held aM_off aM_comesUp aM_comesDown aM_path aM_gets aM_gotNow aM_passing : Nat) (vM_isKept : Int32) (vM_taped : Int32) (vM_leaked : Int32) (vM_keptAll : Int32) (vM_offAll : Int32) (vM_up : Int64) (vM_down : Int64) (vM_sharesUp : Int64) (vM_sharesDown : Int64) (vM_onUp : Int64) (vM_onDown : Int64) (vM_great : Int32) (vM_triedOff : Int32) (vM_triedLeaked : Int32) (vM_triedKept : Int32) (vM_fitting : Int32) (vM_firstSet : Int32) (vM_inAll : Int32) (vM_inAny : Int32) (vM_at : Int32) (vM_sort : Int32) (vM_from : Int32) (vM_value : Int64) (vM_fault : Int32) (cM_found : Nat → Int32) (cM_bitsOf : Nat → Int32) (cM_sizeOf : Nat → Int32) (cM_number : Nat → Int32) (x1 : Int32) (x2 : Int32) (x3 : Int32) (out : Int32 × (Nat → Int32) × (Nat → Int32) × (Nat → Int32) × (Nat → Int32)) (h : f_X8_sheet x1 x2 x3 cM_found cM_bitsOf cM_sizeOf cM_number = some out) : Mi l yX8_sheet wsX8_sheet ({ frames := 2, cells := 0, slots := 0, locals := 45 } : Room) D (tyA cyI cyJ cyZ cyB cyO) [.ref aM, .int x1, .int x2, .int x3] (w_X8_sheet cyI cyJ cyZ cyB cyO aM aM_found aM_bitsOf aM_sizeOf aM_number aM_d aM_e aM_f aM_kept aM_tape aM_came aM_got aM_held aM_off aM_comesUp aM_comesDown aM_path aM_gets aM_gotNow aM_passing vM_isKept vM_taped vM_leaked vM_keptAll vM_offAll vM_up vM_down vM_sharesUp vM_sharesDown vM_onUp vM_onDown vM_great vM_triedOff vM_triedLeaked vM_triedKept vM_fitting vM_firstSet vM_inAll vM_inAny vM_at vM_sort vM_from vM_value vM_fault cM_found cM_bitsOf cM_sizeOf cM_number) (w_X8_sheet cyI cyJ cyZ cyB cyO aM aM_found aM_bitsOf aM_sizeOf aM_number aM_d aM_e aM_f aM_kept aM_tape aM_came aM_got aM_held aM_off aM_comesUp aM_comesDown aM_path aM_gets aM_gotNow aM_passing vM_isKept vM_taped vM_leaked vM_keptAll vM_offAll vM_up vM_down vM_sharesUp vM_sharesDown vM_onUp vM_onDown vM_great vM_triedOff vM_triedLeaked vM_triedKept vM_fitting vM_firstSet vM_inAll vM_inAny vM_at vM_sort vM_from vM_value vM_fault out.2.1 out.2.2.1 out.2.2.2.1 out.2.2.2.2) out.1 := by
  refine Mi.mk (cc := cX8_sheet) (maxL := 5) (rt := .int) (own := RX8) (by decide) rfl rfl (Nat.le_of_ble_eq_true rfl) ?_
  intro p e s m args below meth c A Q F hK hP hD hA hret ls hl
  obtain ⟨hx, hb, hml, hown, hts⟩ := id F
  have hS : va_S A s.heap s.heap [] := va_S.rf
  have hl : lv_has ls 5 [(0, .ref aM), (1, .int x1), (2, .int x2), (3, .int x3)] := hl
  have in_X8 : ∀ w ∈ wsX80, w ∈ wsX8_sheet := by decide +kernel
  have q4 := hts (Cond.methodLink RX8 359 yX8_isSheet) (List.mem_of_getElem? (i := 4) rfl)
  have q12 := hts (Cond.methodLink RX8 115 yX8_finds) (List.mem_of_getElem? (i := 12) rfl)
  have q1 := hts (Cond.fieldLink RX8 57 "ThirdFountainModel" "bitsOf" "[I") (List.mem_of_getElem? (i := 1) rfl)
  have q2 := hts (Cond.fieldLink RX8 60 "ThirdFountainModel" "sizeOf" "[I") (List.mem_of_getElem? (i := 2) rfl)
  have q3 := hts (Cond.fieldLink RX8 63 "ThirdFountainModel" "number" "[I") (List.mem_of_getElem? (i := 3) rfl)
  unfold f_X8_sheet at h
  refine lv_iload_n hx hb dX8_sheet_0 rfl (lv_at hl 1 rfl) ?_
  obtain ⟨u1, hu1, h⟩ := bd_some h
  refine cl_Si (rest := []) F hK hP hD hS hA hl (t_X8_isSheet l D cyI cyJ cyZ cyB cyO x1 u1 hu1) (va_cwS 1 hts gX8_sheet_X8_isSheet rfl rfl rfl (by decide +kernel) ⟨Nat.le_of_ble_eq_true rfl, Nat.le_of_ble_eq_true rfl⟩) [] [0, 0, 0, 0, 0] [] (w_X8_sheet cyI cyJ cyZ cyB cyO aM aM_found aM_bitsOf aM_sizeOf aM_number aM_d aM_e aM_f aM_kept aM_tape aM_came aM_got aM_held aM_off aM_comesUp aM_comesDown aM_path aM_gets aM_gotNow aM_passing vM_isKept vM_taped vM_leaked vM_keptAll vM_offAll vM_up vM_down vM_sharesUp vM_sharesDown vM_onUp vM_onDown vM_great vM_triedOff vM_triedLeaked vM_triedKept vM_fitting vM_firstSet vM_inAll vM_inAny vM_at vM_sort vM_from vM_value vM_fault cM_found cM_bitsOf cM_sizeOf cM_number) rfl rfl rfl (by decide +kernel) rfl rfl (Nat.le_of_ble_eq_true rfl) ⟨Nat.zero_le _, Nat.zero_le _⟩ dX8_sheet_1 (fun H locs hP hD hS => ?_)
  refine lv_if_eq (tgt := 29) hx hb dX8_sheet_4 (by decide) (fun c2 => ?_) (fun c2 => ?_)
  · have h := br_pos c2 h
    refine lv_aload_n hx hb dX8_sheet_29 rfl (lv_at hl 0 rfl) ?_
    refine lv_iconst (v := 0) hx hb dX8_sheet_30 (by decide) ?_
    obtain ⟨u3, hu3, h⟩ := bd_some h
    refine cl_Vi (rest := []) F hK hP hD hS hA hl (t_X8_finds l D cyI cyJ cyZ cyB cyO aM aM_found aM_d aM_e aM_f aM_kept aM_tape aM_came aM_got aM_held aM_off aM_comesUp aM_comesDown aM_path aM_gets aM_gotNow aM_bitsOf aM_sizeOf aM_number aM_passing vM_isKept vM_taped vM_leaked vM_keptAll vM_offAll vM_up vM_down vM_sharesUp vM_sharesDown vM_onUp vM_onDown vM_great vM_triedOff vM_triedLeaked vM_triedKept vM_fitting vM_firstSet vM_inAll vM_inAny vM_at vM_sort vM_from vM_value vM_fault cM_found (0 : Int32) u3 hu3) (cwV 1 hts gX8_sheet_X8_finds rfl rfl rfl (by decide +kernel) ⟨Nat.le_of_ble_eq_true rfl, Nat.le_of_ble_eq_true rfl⟩) 0 [0, 1] [1, 2, 0, 0, 0] [] (w_X8_sheet cyI cyJ cyZ cyB cyO aM aM_found aM_bitsOf aM_sizeOf aM_number aM_d aM_e aM_f aM_kept aM_tape aM_came aM_got aM_held aM_off aM_comesUp aM_comesDown aM_path aM_gets aM_gotNow aM_passing vM_isKept vM_taped vM_leaked vM_keptAll vM_offAll vM_up vM_down vM_sharesUp vM_sharesDown vM_onUp vM_onDown vM_great vM_triedOff vM_triedLeaked vM_triedKept vM_fitting vM_firstSet vM_inAll vM_inAny vM_at vM_sort vM_from vM_value vM_fault u3.2 cM_bitsOf cM_sizeOf cM_number) rfl rfl rfl rfl rfl (by decide +kernel) rfl rfl (Nat.le_of_ble_eq_true rfl) ⟨Nat.zero_le _, Nat.zero_le _⟩ dX8_sheet_31 (fun H locs hP hD hS => ?_)
    obtain rfl := Option.some.inj h
    exact hret _ _ _ _ _ hP hD hS dX8_sheet_34 rfl rfl
  · have h := br_neg c2 h
    refine lv_iload_n hx hb dX8_sheet_7 rfl (lv_at hl 2 rfl) ?_
    have j35 : ∀ (cM_found : Nat → Int32) (cM_bitsOf : Nat → Int32) (cM_sizeOf : Nat → Int32) (cM_number : Nat → Int32) (H : Heap) (locs : List Loc) (ls : Array Slot), va_P D vwCl (w_X8_sheet cyI cyJ cyZ cyB cyO aM aM_found aM_bitsOf aM_sizeOf aM_number aM_d aM_e aM_f aM_kept aM_tape aM_came aM_got aM_held aM_off aM_comesUp aM_comesDown aM_path aM_gets aM_gotNow aM_passing vM_isKept vM_taped vM_leaked vM_keptAll vM_offAll vM_up vM_down vM_sharesUp vM_sharesDown vM_onUp vM_onDown vM_great vM_triedOff vM_triedLeaked vM_triedKept vM_fitting vM_firstSet vM_inAll vM_inAny vM_at vM_sort vM_from vM_value vM_fault cM_found cM_bitsOf cM_sizeOf cM_number) H → va_D A (w_X8_sheet cyI cyJ cyZ cyB cyO aM aM_found aM_bitsOf aM_sizeOf aM_number aM_d aM_e aM_f aM_kept aM_tape aM_came aM_got aM_held aM_off aM_comesUp aM_comesDown aM_path aM_gets aM_gotNow aM_passing vM_isKept vM_taped vM_leaked vM_keptAll vM_offAll vM_up vM_down vM_sharesUp vM_sharesDown vM_onUp vM_onDown vM_great vM_triedOff vM_triedLeaked vM_triedKept vM_fitting vM_firstSet vM_inAll vM_inAny vM_at vM_sort vM_from vM_value vM_fault cM_found cM_bitsOf cM_sizeOf cM_number) → va_S A s.heap H locs → lv_has ls 5 [(0, .ref aM), (1, .int x1), (2, .int x2), (3, .int x3)] → f_X8_sheet_J35 x1 x2 x3 cM_found cM_bitsOf cM_sizeOf cM_number = some out → W p l e ({ frames := 2, cells := 0, slots := 0, locals := 45 } : Room) s m args below meth c H locs 0 0 Q (F0 m 35 ls []) := by
      intro cM_found cM_bitsOf cM_sizeOf cM_number H locs ls hP hD hS hl h
      unfold f_X8_sheet_J35 at h
      refine lv_iload_n hx hb dX8_sheet_35 rfl (lv_at hl 3 rfl) ?_
      refine lv_if_ge (tgt := 46) hx hb dX8_sheet_36 (by decide) (fun c4 => ?_) (fun c4 => ?_)
      · have h := br_pos c4 h
        refine lv_iload_n hx hb dX8_sheet_46 rfl (lv_at hl 3 rfl) ?_
        refine lv_bipush (v := 40) hx hb dX8_sheet_47 (by decide) ?_
        refine lv_icmp_le (tgt := 58) hx hb dX8_sheet_49 (by decide) (fun c5 => ?_) (fun c5 => ?_)
        · have h := br_pos c5 h
          refine lv_aload_n hx hb dX8_sheet_58 rfl (lv_at hl 0 rfl) ?_
          refine va_get (D := D) (ci := 7) (v := .ref aM_bitsOf) (C := RX8) (T := TX8) (N := 43) hx hb hts in_X8 hown hK hP 0 rfl rfl 39 (by decide) q1 (fun _ h9 => h9) rfl dX8_sheet_59 ?_
          refine lv_iload_n hx hb dX8_sheet_62 rfl (lv_at hl 1 rfl) ?_
          refine lv_iload_n hx hb dX8_sheet_63 rfl (lv_at hl 2 rfl) ?_
          obtain ⟨g6, h⟩ := gd_some h
          refine va_iast hx hb hK hP hD hS 2 0 rfl rfl g6 dX8_sheet_64 (fun H locs hP hD hS => ?_)
          have hP : va_P D vwCl (w_X8_sheet cyI cyJ cyZ cyB cyO aM aM_found aM_bitsOf aM_sizeOf aM_number aM_d aM_e aM_f aM_kept aM_tape aM_came aM_got aM_held aM_off aM_comesUp aM_comesDown aM_path aM_gets aM_gotNow aM_passing vM_isKept vM_taped vM_leaked vM_keptAll vM_offAll vM_up vM_down vM_sharesUp vM_sharesDown vM_onUp vM_onDown vM_great vM_triedOff vM_triedLeaked vM_triedKept vM_fitting vM_firstSet vM_inAll vM_inAny vM_at vM_sort vM_from vM_value vM_fault cM_found (upd cM_bitsOf x1.toNatClampNeg x2) cM_sizeOf cM_number) H := hP
          have hD : va_D A (w_X8_sheet cyI cyJ cyZ cyB cyO aM aM_found aM_bitsOf aM_sizeOf aM_number aM_d aM_e aM_f aM_kept aM_tape aM_came aM_got aM_held aM_off aM_comesUp aM_comesDown aM_path aM_gets aM_gotNow aM_passing vM_isKept vM_taped vM_leaked vM_keptAll vM_offAll vM_up vM_down vM_sharesUp vM_sharesDown vM_onUp vM_onDown vM_great vM_triedOff vM_triedLeaked vM_triedKept vM_fitting vM_firstSet vM_inAll vM_inAny vM_at vM_sort vM_from vM_value vM_fault cM_found (upd cM_bitsOf x1.toNatClampNeg x2) cM_sizeOf cM_number) := hD
          refine lv_aload_n hx hb dX8_sheet_65 rfl (lv_at hl 0 rfl) ?_
          refine va_get (D := D) (ci := 7) (v := .ref aM_sizeOf) (C := RX8) (T := TX8) (N := 43) hx hb hts in_X8 hown hK hP 0 rfl rfl 40 (by decide) q2 (fun _ h9 => h9) rfl dX8_sheet_66 ?_
          refine lv_iload_n hx hb dX8_sheet_69 rfl (lv_at hl 1 rfl) ?_
          refine lv_iload_n hx hb dX8_sheet_70 rfl (lv_at hl 2 rfl) ?_
          refine lv_if_ne (tgt := 78) hx hb dX8_sheet_71 (by decide) (fun c7 => ?_) (fun c7 => ?_)
          · have h := br_neg c7 h
            refine lv_iload_n hx hb dX8_sheet_78 rfl (lv_at hl 3 rfl) ?_
            obtain ⟨g8, h⟩ := gd_some h
            refine va_iast hx hb hK hP hD hS 3 0 rfl rfl g8 dX8_sheet_79 (fun H locs hP hD hS => ?_)
            have hP : va_P D vwCl (w_X8_sheet cyI cyJ cyZ cyB cyO aM aM_found aM_bitsOf aM_sizeOf aM_number aM_d aM_e aM_f aM_kept aM_tape aM_came aM_got aM_held aM_off aM_comesUp aM_comesDown aM_path aM_gets aM_gotNow aM_passing vM_isKept vM_taped vM_leaked vM_keptAll vM_offAll vM_up vM_down vM_sharesUp vM_sharesDown vM_onUp vM_onDown vM_great vM_triedOff vM_triedLeaked vM_triedKept vM_fitting vM_firstSet vM_inAll vM_inAny vM_at vM_sort vM_from vM_value vM_fault cM_found (upd cM_bitsOf x1.toNatClampNeg x2) (upd cM_sizeOf x1.toNatClampNeg x3) cM_number) H := hP
            have hD : va_D A (w_X8_sheet cyI cyJ cyZ cyB cyO aM aM_found aM_bitsOf aM_sizeOf aM_number aM_d aM_e aM_f aM_kept aM_tape aM_came aM_got aM_held aM_off aM_comesUp aM_comesDown aM_path aM_gets aM_gotNow aM_passing vM_isKept vM_taped vM_leaked vM_keptAll vM_offAll vM_up vM_down vM_sharesUp vM_sharesDown vM_onUp vM_onDown vM_great vM_triedOff vM_triedLeaked vM_triedKept vM_fitting vM_firstSet vM_inAll vM_inAny vM_at vM_sort vM_from vM_value vM_fault cM_found (upd cM_bitsOf x1.toNatClampNeg x2) (upd cM_sizeOf x1.toNatClampNeg x3) cM_number) := hD
            refine lv_iconst (v := 0) hx hb dX8_sheet_80 (by decide) ?_
            refine lv_istore (lv' := [(4, .int (0 : Int32)), (0, .ref aM), (1, .int x1), (2, .int x2), (3, .int x3)]) hx hb dX8_sheet_81 hl (by decide) rfl (fun ls hl => ?_)
            have lp83 : ∀ (k83 : Nat) (y4 : Int32) (cM_found : Nat → Int32) (cM_bitsOf : Nat → Int32) (cM_sizeOf : Nat → Int32) (cM_number : Nat → Int32) (H : Heap) (locs : List Loc) (ls : Array Slot), va_P D vwCl (w_X8_sheet cyI cyJ cyZ cyB cyO aM aM_found aM_bitsOf aM_sizeOf aM_number aM_d aM_e aM_f aM_kept aM_tape aM_came aM_got aM_held aM_off aM_comesUp aM_comesDown aM_path aM_gets aM_gotNow aM_passing vM_isKept vM_taped vM_leaked vM_keptAll vM_offAll vM_up vM_down vM_sharesUp vM_sharesDown vM_onUp vM_onDown vM_great vM_triedOff vM_triedLeaked vM_triedKept vM_fitting vM_firstSet vM_inAll vM_inAny vM_at vM_sort vM_from vM_value vM_fault cM_found cM_bitsOf cM_sizeOf cM_number) H → va_D A (w_X8_sheet cyI cyJ cyZ cyB cyO aM aM_found aM_bitsOf aM_sizeOf aM_number aM_d aM_e aM_f aM_kept aM_tape aM_came aM_got aM_held aM_off aM_comesUp aM_comesDown aM_path aM_gets aM_gotNow aM_passing vM_isKept vM_taped vM_leaked vM_keptAll vM_offAll vM_up vM_down vM_sharesUp vM_sharesDown vM_onUp vM_onDown vM_great vM_triedOff vM_triedLeaked vM_triedKept vM_fitting vM_firstSet vM_inAll vM_inAny vM_at vM_sort vM_from vM_value vM_fault cM_found cM_bitsOf cM_sizeOf cM_number) → va_S A s.heap H locs → lv_has ls 5 [(4, .int y4), (0, .ref aM), (1, .int x1)] → (f_X8_sheet_L83 x1 x2 x3 k83) (y4, cM_found, cM_bitsOf, cM_sizeOf, cM_number) = some out → W p l e ({ frames := 2, cells := 0, slots := 0, locals := 45 } : Room) s m args below meth c H locs 0 0 Q (F0 m 83 ls []) := by
              intro k83
              induction k83 with
              | zero => intro y4 cM_found cM_bitsOf cM_sizeOf cM_number H locs ls hP hD hS hl h; cases h
              | succ k83 ih83 =>
                intro y4 cM_found cM_bitsOf cM_sizeOf cM_number H locs ls hP hD hS hl h
                have h : f_X8_sheet_L83_b x1 x2 x3 (f_X8_sheet_L83 x1 x2 x3 k83) y4 cM_found cM_bitsOf cM_sizeOf cM_number = some out := h
                unfold f_X8_sheet_L83_b at h
                refine lv_iload hx hb dX8_sheet_83 (lv_at hl 0 rfl) ?_
                refine lv_bipush (v := 40) hx hb dX8_sheet_85 (by decide) ?_
                refine lv_icmp_ge (tgt := 109) hx hb dX8_sheet_87 (by decide) (fun c9 => ?_) (fun c9 => ?_)
                · have h := br_pos c9 h
                  refine lv_aload_n hx hb dX8_sheet_109 rfl (lv_at hl 1 rfl) ?_
                  refine va_get (D := D) (ci := 7) (v := .ref aM_sizeOf) (C := RX8) (T := TX8) (N := 43) hx hb hts in_X8 hown hK hP 0 rfl rfl 40 (by decide) q2 (fun _ h9 => h9) rfl dX8_sheet_110 ?_
                  refine lv_iload_n hx hb dX8_sheet_113 rfl (lv_at hl 2 rfl) ?_
                  obtain ⟨g10, h⟩ := gd_some h
                  refine va_iald hx hb hK hP 3 0 rfl rfl g10 dX8_sheet_114 ?_
                  obtain rfl := Option.some.inj h
                  exact hret _ _ _ _ _ hP hD hS dX8_sheet_115 rfl rfl
                · have h := br_neg c9 h
                  refine lv_aload_n hx hb dX8_sheet_90 rfl (lv_at hl 1 rfl) ?_
                  refine va_get (D := D) (ci := 7) (v := .ref aM_number) (C := RX8) (T := TX8) (N := 43) hx hb hts in_X8 hown hK hP 0 rfl rfl 41 (by decide) q3 (fun _ h9 => h9) rfl dX8_sheet_91 ?_
                  refine lv_bipush (v := 40) hx hb dX8_sheet_94 (by decide) ?_
                  refine lv_iload_n hx hb dX8_sheet_96 rfl (lv_at hl 2 rfl) ?_
                  refine lv_imul hx hb dX8_sheet_97 ?_
                  refine lv_iload hx hb dX8_sheet_98 (lv_at hl 0 rfl) ?_
                  refine lv_iadd hx hb dX8_sheet_100 ?_
                  refine lv_iconst (v := 0) hx hb dX8_sheet_101 (by decide) ?_
                  obtain ⟨g11, h⟩ := gd_some h
                  refine va_iast hx hb hK hP hD hS 4 0 rfl rfl g11 dX8_sheet_102 (fun H locs hP hD hS => ?_)
                  have hP : va_P D vwCl (w_X8_sheet cyI cyJ cyZ cyB cyO aM aM_found aM_bitsOf aM_sizeOf aM_number aM_d aM_e aM_f aM_kept aM_tape aM_came aM_got aM_held aM_off aM_comesUp aM_comesDown aM_path aM_gets aM_gotNow aM_passing vM_isKept vM_taped vM_leaked vM_keptAll vM_offAll vM_up vM_down vM_sharesUp vM_sharesDown vM_onUp vM_onDown vM_great vM_triedOff vM_triedLeaked vM_triedKept vM_fitting vM_firstSet vM_inAll vM_inAny vM_at vM_sort vM_from vM_value vM_fault cM_found cM_bitsOf cM_sizeOf (upd cM_number (((40 : Int32) * x1) + y4).toNatClampNeg (0 : Int32))) H := hP
                  have hD : va_D A (w_X8_sheet cyI cyJ cyZ cyB cyO aM aM_found aM_bitsOf aM_sizeOf aM_number aM_d aM_e aM_f aM_kept aM_tape aM_came aM_got aM_held aM_off aM_comesUp aM_comesDown aM_path aM_gets aM_gotNow aM_passing vM_isKept vM_taped vM_leaked vM_keptAll vM_offAll vM_up vM_down vM_sharesUp vM_sharesDown vM_onUp vM_onDown vM_great vM_triedOff vM_triedLeaked vM_triedKept vM_fitting vM_firstSet vM_inAll vM_inAny vM_at vM_sort vM_from vM_value vM_fault cM_found cM_bitsOf cM_sizeOf (upd cM_number (((40 : Int32) * x1) + y4).toNatClampNeg (0 : Int32))) := hD
                  refine lv_iinc (v := y4 + 1) (lv' := [(4, .int (y4 + 1)), (0, .ref aM), (1, .int x1)]) hx hb dX8_sheet_103 hl (k := 0) rfl rfl (by decide) rfl (fun ls hl => ?_)
                  refine lv_goto (tgt := 83) hx hb dX8_sheet_106 (by decide) ?_
                  exact ih83 (y4 + 1) cM_found cM_bitsOf cM_sizeOf (upd cM_number (((40 : Int32) * x1) + y4).toNatClampNeg (0 : Int32)) _ _ _ hP hD hS (lv_sub hl [0, 1, 2] rfl) h
            exact lp83 FU (0 : Int32) cM_found (upd cM_bitsOf x1.toNatClampNeg x2) (upd cM_sizeOf x1.toNatClampNeg x3) cM_number _ _ _ hP hD hS (lv_sub hl [0, 1, 2] rfl) h
          · have h := br_pos c7 h
            refine lv_iconst (v := 0) hx hb dX8_sheet_74 (by decide) ?_
            refine lv_goto (tgt := 79) hx hb dX8_sheet_75 (by decide) ?_
            obtain ⟨g12, h⟩ := gd_some h
            refine va_iast hx hb hK hP hD hS 3 0 rfl rfl g12 dX8_sheet_79 (fun H locs hP hD hS => ?_)
            have hP : va_P D vwCl (w_X8_sheet cyI cyJ cyZ cyB cyO aM aM_found aM_bitsOf aM_sizeOf aM_number aM_d aM_e aM_f aM_kept aM_tape aM_came aM_got aM_held aM_off aM_comesUp aM_comesDown aM_path aM_gets aM_gotNow aM_passing vM_isKept vM_taped vM_leaked vM_keptAll vM_offAll vM_up vM_down vM_sharesUp vM_sharesDown vM_onUp vM_onDown vM_great vM_triedOff vM_triedLeaked vM_triedKept vM_fitting vM_firstSet vM_inAll vM_inAny vM_at vM_sort vM_from vM_value vM_fault cM_found (upd cM_bitsOf x1.toNatClampNeg x2) (upd cM_sizeOf x1.toNatClampNeg (0 : Int32)) cM_number) H := hP
            have hD : va_D A (w_X8_sheet cyI cyJ cyZ cyB cyO aM aM_found aM_bitsOf aM_sizeOf aM_number aM_d aM_e aM_f aM_kept aM_tape aM_came aM_got aM_held aM_off aM_comesUp aM_comesDown aM_path aM_gets aM_gotNow aM_passing vM_isKept vM_taped vM_leaked vM_keptAll vM_offAll vM_up vM_down vM_sharesUp vM_sharesDown vM_onUp vM_onDown vM_great vM_triedOff vM_triedLeaked vM_triedKept vM_fitting vM_firstSet vM_inAll vM_inAny vM_at vM_sort vM_from vM_value vM_fault cM_found (upd cM_bitsOf x1.toNatClampNeg x2) (upd cM_sizeOf x1.toNatClampNeg (0 : Int32)) cM_number) := hD
            refine lv_iconst (v := 0) hx hb dX8_sheet_80 (by decide) ?_
            refine lv_istore (lv' := [(4, .int (0 : Int32)), (0, .ref aM), (1, .int x1), (2, .int x2), (3, .int x3)]) hx hb dX8_sheet_81 hl (by decide) rfl (fun ls hl => ?_)
            have lp83 : ∀ (k83 : Nat) (y4 : Int32) (cM_found : Nat → Int32) (cM_bitsOf : Nat → Int32) (cM_sizeOf : Nat → Int32) (cM_number : Nat → Int32) (H : Heap) (locs : List Loc) (ls : Array Slot), va_P D vwCl (w_X8_sheet cyI cyJ cyZ cyB cyO aM aM_found aM_bitsOf aM_sizeOf aM_number aM_d aM_e aM_f aM_kept aM_tape aM_came aM_got aM_held aM_off aM_comesUp aM_comesDown aM_path aM_gets aM_gotNow aM_passing vM_isKept vM_taped vM_leaked vM_keptAll vM_offAll vM_up vM_down vM_sharesUp vM_sharesDown vM_onUp vM_onDown vM_great vM_triedOff vM_triedLeaked vM_triedKept vM_fitting vM_firstSet vM_inAll vM_inAny vM_at vM_sort vM_from vM_value vM_fault cM_found cM_bitsOf cM_sizeOf cM_number) H → va_D A (w_X8_sheet cyI cyJ cyZ cyB cyO aM aM_found aM_bitsOf aM_sizeOf aM_number aM_d aM_e aM_f aM_kept aM_tape aM_came aM_got aM_held aM_off aM_comesUp aM_comesDown aM_path aM_gets aM_gotNow aM_passing vM_isKept vM_taped vM_leaked vM_keptAll vM_offAll vM_up vM_down vM_sharesUp vM_sharesDown vM_onUp vM_onDown vM_great vM_triedOff vM_triedLeaked vM_triedKept vM_fitting vM_firstSet vM_inAll vM_inAny vM_at vM_sort vM_from vM_value vM_fault cM_found cM_bitsOf cM_sizeOf cM_number) → va_S A s.heap H locs → lv_has ls 5 [(4, .int y4), (0, .ref aM), (1, .int x1)] → (f_X8_sheet_L83 x1 x2 x3 k83) (y4, cM_found, cM_bitsOf, cM_sizeOf, cM_number) = some out → W p l e ({ frames := 2, cells := 0, slots := 0, locals := 45 } : Room) s m args below meth c H locs 0 0 Q (F0 m 83 ls []) := by
              intro k83
              induction k83 with
              | zero => intro y4 cM_found cM_bitsOf cM_sizeOf cM_number H locs ls hP hD hS hl h; cases h
              | succ k83 ih83 =>
                intro y4 cM_found cM_bitsOf cM_sizeOf cM_number H locs ls hP hD hS hl h
                have h : f_X8_sheet_L83_b x1 x2 x3 (f_X8_sheet_L83 x1 x2 x3 k83) y4 cM_found cM_bitsOf cM_sizeOf cM_number = some out := h
                unfold f_X8_sheet_L83_b at h
                refine lv_iload hx hb dX8_sheet_83 (lv_at hl 0 rfl) ?_
                refine lv_bipush (v := 40) hx hb dX8_sheet_85 (by decide) ?_
                refine lv_icmp_ge (tgt := 109) hx hb dX8_sheet_87 (by decide) (fun c13 => ?_) (fun c13 => ?_)
                · have h := br_pos c13 h
                  refine lv_aload_n hx hb dX8_sheet_109 rfl (lv_at hl 1 rfl) ?_
                  refine va_get (D := D) (ci := 7) (v := .ref aM_sizeOf) (C := RX8) (T := TX8) (N := 43) hx hb hts in_X8 hown hK hP 0 rfl rfl 40 (by decide) q2 (fun _ h9 => h9) rfl dX8_sheet_110 ?_
                  refine lv_iload_n hx hb dX8_sheet_113 rfl (lv_at hl 2 rfl) ?_
                  obtain ⟨g14, h⟩ := gd_some h
                  refine va_iald hx hb hK hP 3 0 rfl rfl g14 dX8_sheet_114 ?_
                  obtain rfl := Option.some.inj h
                  exact hret _ _ _ _ _ hP hD hS dX8_sheet_115 rfl rfl
                · have h := br_neg c13 h
                  refine lv_aload_n hx hb dX8_sheet_90 rfl (lv_at hl 1 rfl) ?_
                  refine va_get (D := D) (ci := 7) (v := .ref aM_number) (C := RX8) (T := TX8) (N := 43) hx hb hts in_X8 hown hK hP 0 rfl rfl 41 (by decide) q3 (fun _ h9 => h9) rfl dX8_sheet_91 ?_
                  refine lv_bipush (v := 40) hx hb dX8_sheet_94 (by decide) ?_
                  refine lv_iload_n hx hb dX8_sheet_96 rfl (lv_at hl 2 rfl) ?_
                  refine lv_imul hx hb dX8_sheet_97 ?_
                  refine lv_iload hx hb dX8_sheet_98 (lv_at hl 0 rfl) ?_
                  refine lv_iadd hx hb dX8_sheet_100 ?_
                  refine lv_iconst (v := 0) hx hb dX8_sheet_101 (by decide) ?_
                  obtain ⟨g15, h⟩ := gd_some h
                  refine va_iast hx hb hK hP hD hS 4 0 rfl rfl g15 dX8_sheet_102 (fun H locs hP hD hS => ?_)
                  have hP : va_P D vwCl (w_X8_sheet cyI cyJ cyZ cyB cyO aM aM_found aM_bitsOf aM_sizeOf aM_number aM_d aM_e aM_f aM_kept aM_tape aM_came aM_got aM_held aM_off aM_comesUp aM_comesDown aM_path aM_gets aM_gotNow aM_passing vM_isKept vM_taped vM_leaked vM_keptAll vM_offAll vM_up vM_down vM_sharesUp vM_sharesDown vM_onUp vM_onDown vM_great vM_triedOff vM_triedLeaked vM_triedKept vM_fitting vM_firstSet vM_inAll vM_inAny vM_at vM_sort vM_from vM_value vM_fault cM_found cM_bitsOf cM_sizeOf (upd cM_number (((40 : Int32) * x1) + y4).toNatClampNeg (0 : Int32))) H := hP
                  have hD : va_D A (w_X8_sheet cyI cyJ cyZ cyB cyO aM aM_found aM_bitsOf aM_sizeOf aM_number aM_d aM_e aM_f aM_kept aM_tape aM_came aM_got aM_held aM_off aM_comesUp aM_comesDown aM_path aM_gets aM_gotNow aM_passing vM_isKept vM_taped vM_leaked vM_keptAll vM_offAll vM_up vM_down vM_sharesUp vM_sharesDown vM_onUp vM_onDown vM_great vM_triedOff vM_triedLeaked vM_triedKept vM_fitting vM_firstSet vM_inAll vM_inAny vM_at vM_sort vM_from vM_value vM_fault cM_found cM_bitsOf cM_sizeOf (upd cM_number (((40 : Int32) * x1) + y4).toNatClampNeg (0 : Int32))) := hD
                  refine lv_iinc (v := y4 + 1) (lv' := [(4, .int (y4 + 1)), (0, .ref aM), (1, .int x1)]) hx hb dX8_sheet_103 hl (k := 0) rfl rfl (by decide) rfl (fun ls hl => ?_)
                  refine lv_goto (tgt := 83) hx hb dX8_sheet_106 (by decide) ?_
                  exact ih83 (y4 + 1) cM_found cM_bitsOf cM_sizeOf (upd cM_number (((40 : Int32) * x1) + y4).toNatClampNeg (0 : Int32)) _ _ _ hP hD hS (lv_sub hl [0, 1, 2] rfl) h
            exact lp83 FU (0 : Int32) cM_found (upd cM_bitsOf x1.toNatClampNeg x2) (upd cM_sizeOf x1.toNatClampNeg (0 : Int32)) cM_number _ _ _ hP hD hS (lv_sub hl [0, 1, 2] rfl) h
        · have h := br_neg c5 h
          refine lv_aload_n hx hb dX8_sheet_52 rfl (lv_at hl 0 rfl) ?_
          refine lv_iconst (v := 0) hx hb dX8_sheet_53 (by decide) ?_
          obtain ⟨u16, hu16, h⟩ := bd_some h
          refine cl_Vi (rest := []) F hK hP hD hS hA hl (t_X8_finds l D cyI cyJ cyZ cyB cyO aM aM_found aM_d aM_e aM_f aM_kept aM_tape aM_came aM_got aM_held aM_off aM_comesUp aM_comesDown aM_path aM_gets aM_gotNow aM_bitsOf aM_sizeOf aM_number aM_passing vM_isKept vM_taped vM_leaked vM_keptAll vM_offAll vM_up vM_down vM_sharesUp vM_sharesDown vM_onUp vM_onDown vM_great vM_triedOff vM_triedLeaked vM_triedKept vM_fitting vM_firstSet vM_inAll vM_inAny vM_at vM_sort vM_from vM_value vM_fault cM_found (0 : Int32) u16 hu16) (cwV 1 hts gX8_sheet_X8_finds rfl rfl rfl (by decide +kernel) ⟨Nat.le_of_ble_eq_true rfl, Nat.le_of_ble_eq_true rfl⟩) 0 [0, 1] [1, 2, 0, 0, 0] [] (w_X8_sheet cyI cyJ cyZ cyB cyO aM aM_found aM_bitsOf aM_sizeOf aM_number aM_d aM_e aM_f aM_kept aM_tape aM_came aM_got aM_held aM_off aM_comesUp aM_comesDown aM_path aM_gets aM_gotNow aM_passing vM_isKept vM_taped vM_leaked vM_keptAll vM_offAll vM_up vM_down vM_sharesUp vM_sharesDown vM_onUp vM_onDown vM_great vM_triedOff vM_triedLeaked vM_triedKept vM_fitting vM_firstSet vM_inAll vM_inAny vM_at vM_sort vM_from vM_value vM_fault u16.2 cM_bitsOf cM_sizeOf cM_number) rfl rfl rfl rfl rfl (by decide +kernel) rfl rfl (Nat.le_of_ble_eq_true rfl) ⟨Nat.zero_le _, Nat.zero_le _⟩ dX8_sheet_54 (fun H locs hP hD hS => ?_)
          obtain rfl := Option.some.inj h
          exact hret _ _ _ _ _ hP hD hS dX8_sheet_57 rfl rfl
      · have h := br_neg c4 h
        refine lv_aload_n hx hb dX8_sheet_39 rfl (lv_at hl 0 rfl) ?_
        refine lv_bipush (v := 6) hx hb dX8_sheet_40 (by decide) ?_
        obtain ⟨u17, hu17, h⟩ := bd_some h
        refine cl_Vi (rest := []) F hK hP hD hS hA hl (t_X8_finds l D cyI cyJ cyZ cyB cyO aM aM_found aM_d aM_e aM_f aM_kept aM_tape aM_came aM_got aM_held aM_off aM_comesUp aM_comesDown aM_path aM_gets aM_gotNow aM_bitsOf aM_sizeOf aM_number aM_passing vM_isKept vM_taped vM_leaked vM_keptAll vM_offAll vM_up vM_down vM_sharesUp vM_sharesDown vM_onUp vM_onDown vM_great vM_triedOff vM_triedLeaked vM_triedKept vM_fitting vM_firstSet vM_inAll vM_inAny vM_at vM_sort vM_from vM_value vM_fault cM_found (6 : Int32) u17 hu17) (cwV 1 hts gX8_sheet_X8_finds rfl rfl rfl (by decide +kernel) ⟨Nat.le_of_ble_eq_true rfl, Nat.le_of_ble_eq_true rfl⟩) 0 [0, 1] [1, 2, 0, 0, 0] [] (w_X8_sheet cyI cyJ cyZ cyB cyO aM aM_found aM_bitsOf aM_sizeOf aM_number aM_d aM_e aM_f aM_kept aM_tape aM_came aM_got aM_held aM_off aM_comesUp aM_comesDown aM_path aM_gets aM_gotNow aM_passing vM_isKept vM_taped vM_leaked vM_keptAll vM_offAll vM_up vM_down vM_sharesUp vM_sharesDown vM_onUp vM_onDown vM_great vM_triedOff vM_triedLeaked vM_triedKept vM_fitting vM_firstSet vM_inAll vM_inAny vM_at vM_sort vM_from vM_value vM_fault u17.2 cM_bitsOf cM_sizeOf cM_number) rfl rfl rfl rfl rfl (by decide +kernel) rfl rfl (Nat.le_of_ble_eq_true rfl) ⟨Nat.zero_le _, Nat.zero_le _⟩ dX8_sheet_42 (fun H locs hP hD hS => ?_)
        obtain rfl := Option.some.inj h
        exact hret _ _ _ _ _ hP hD hS dX8_sheet_45 rfl rfl
    refine lv_if_eq (tgt := 35) hx hb dX8_sheet_8 (by decide) (fun c18 => ?_) (fun c18 => ?_)
    · have h := br_pos c18 h
      exact j35 cM_found cM_bitsOf cM_sizeOf cM_number _ _ _ hP hD hS (lv_sub hl [0, 1, 2, 3] rfl) h
    · have h := br_neg c18 h
      refine lv_iload_n hx hb dX8_sheet_11 rfl (lv_at hl 2 rfl) ?_
      refine lv_bipush (v := 8) hx hb dX8_sheet_12 (by decide) ?_
      refine lv_icmp_eq (tgt := 35) hx hb dX8_sheet_14 (by decide) (fun c19 => ?_) (fun c19 => ?_)
      · have h := br_pos c19 h
        exact j35 cM_found cM_bitsOf cM_sizeOf cM_number _ _ _ hP hD hS (lv_sub hl [0, 1, 2, 3] rfl) h
      · have h := br_neg c19 h
        refine lv_iload_n hx hb dX8_sheet_17 rfl (lv_at hl 2 rfl) ?_
        refine lv_bipush (v := 16) hx hb dX8_sheet_18 (by decide) ?_
        refine lv_icmp_eq (tgt := 35) hx hb dX8_sheet_20 (by decide) (fun c20 => ?_) (fun c20 => ?_)
        · have h := br_pos c20 h
          exact j35 cM_found cM_bitsOf cM_sizeOf cM_number _ _ _ hP hD hS (lv_sub hl [0, 1, 2, 3] rfl) h
        · have h := br_neg c20 h
          refine lv_iload_n hx hb dX8_sheet_23 rfl (lv_at hl 2 rfl) ?_
          refine lv_bipush (v := 32) hx hb dX8_sheet_24 (by decide) ?_
          refine lv_icmp_eq (tgt := 35) hx hb dX8_sheet_26 (by decide) (fun c21 => ?_) (fun c21 => ?_)
          · have h := br_pos c21 h
            exact j35 cM_found cM_bitsOf cM_sizeOf cM_number _ _ _ hP hD hS (lv_sub hl [0, 1, 2, 3] rfl) h
          · have h := br_neg c21 h
            refine lv_aload_n hx hb dX8_sheet_29 rfl (lv_at hl 0 rfl) ?_
            refine lv_iconst (v := 0) hx hb dX8_sheet_30 (by decide) ?_
            obtain ⟨u22, hu22, h⟩ := bd_some h
            refine cl_Vi (rest := []) F hK hP hD hS hA hl (t_X8_finds l D cyI cyJ cyZ cyB cyO aM aM_found aM_d aM_e aM_f aM_kept aM_tape aM_came aM_got aM_held aM_off aM_comesUp aM_comesDown aM_path aM_gets aM_gotNow aM_bitsOf aM_sizeOf aM_number aM_passing vM_isKept vM_taped vM_leaked vM_keptAll vM_offAll vM_up vM_down vM_sharesUp vM_sharesDown vM_onUp vM_onDown vM_great vM_triedOff vM_triedLeaked vM_triedKept vM_fitting vM_firstSet vM_inAll vM_inAny vM_at vM_sort vM_from vM_value vM_fault cM_found (0 : Int32) u22 hu22) (cwV 1 hts gX8_sheet_X8_finds rfl rfl rfl (by decide +kernel) ⟨Nat.le_of_ble_eq_true rfl, Nat.le_of_ble_eq_true rfl⟩) 0 [0, 1] [1, 2, 0, 0, 0] [] (w_X8_sheet cyI cyJ cyZ cyB cyO aM aM_found aM_bitsOf aM_sizeOf aM_number aM_d aM_e aM_f aM_kept aM_tape aM_came aM_got aM_held aM_off aM_comesUp aM_comesDown aM_path aM_gets aM_gotNow aM_passing vM_isKept vM_taped vM_leaked vM_keptAll vM_offAll vM_up vM_down vM_sharesUp vM_sharesDown vM_onUp vM_onDown vM_great vM_triedOff vM_triedLeaked vM_triedKept vM_fitting vM_firstSet vM_inAll vM_inAny vM_at vM_sort vM_from vM_value vM_fault u22.2 cM_bitsOf cM_sizeOf cM_number) rfl rfl rfl rfl rfl (by decide +kernel) rfl rfl (Nat.le_of_ble_eq_true rfl) ⟨Nat.zero_le _, Nat.zero_le _⟩ dX8_sheet_31 (fun H locs hP hD hS => ?_)
            obtain rfl := Option.some.inj h
            exact hret _ _ _ _ _ hP hD hS dX8_sheet_34 rfl rfl
/-! ===== X8_write ===== -/
def w_X8_write (cyI cyJ cyZ cyB cyO : ClassId) (aM aM_bitsOf aM_sizeOf aM_number aM_found aM_d aM_e aM_f aM_kept aM_tape aM_came aM_got aM_held aM_off aM_comesUp aM_comesDown aM_path aM_gets aM_gotNow aM_passing : Nat) (vM_isKept : Int32) (vM_taped : Int32) (vM_leaked : Int32) (vM_keptAll : Int32) (vM_offAll : Int32) (vM_up : Int64) (vM_down : Int64) (vM_sharesUp : Int64) (vM_sharesDown : Int64) (vM_onUp : Int64) (vM_onDown : Int64) (vM_great : Int32) (vM_triedOff : Int32) (vM_triedLeaked : Int32) (vM_triedKept : Int32) (vM_fitting : Int32) (vM_firstSet : Int32) (vM_inAll : Int32) (vM_inAny : Int32) (vM_at : Int32) (vM_sort : Int32) (vM_from : Int32) (vM_value : Int64) (vM_fault : Int32) (cM_bitsOf : Nat → Int32) (cM_sizeOf : Nat → Int32) (cM_number : Nat → Int32) (cM_found : Nat → Int32) : va_W := [(aM, .inr (7, [.ref aM_d, .ref aM_e, .ref aM_f, .ref aM_kept, .int vM_isKept, .ref aM_found, .ref aM_tape, .int vM_taped, .ref aM_came, .ref aM_got, .ref aM_held, .ref aM_off, .int vM_leaked, .int vM_keptAll, .int vM_offAll, .ref aM_comesUp, .ref aM_comesDown, .long vM_up, .long vM_down, .long vM_sharesUp, .long vM_sharesDown, .long vM_onUp, .long vM_onDown, .int vM_great, .ref aM_path, .ref aM_gets, .int vM_triedOff, .int vM_triedLeaked, .int vM_triedKept, .ref aM_gotNow, .int vM_fitting, .int vM_firstSet, .int vM_inAll, .int vM_inAny, .int vM_at, .int vM_sort, .int vM_from, .long vM_value, .int vM_fault, .ref aM_bitsOf, .ref aM_sizeOf, .ref aM_number, .ref aM_passing])), (aM_bitsOf, .inl (cyI, 4, .inl cM_bitsOf)), (aM_sizeOf, .inl (cyI, 4, .inl cM_sizeOf)), (aM_number, .inl (cyI, 160, .inl cM_number)), (aM_found, .inl (cyI, 7, .inl cM_found))]
set_option maxHeartbeats 4000000 in
set_option maxRecDepth 100000 in
theorem t_X8_write (l : Launch) (D : va_G) (cyI cyJ cyZ cyB cyO : ClassId) (aM aM_bitsOf aM_sizeOf aM_number aM_found aM_d aM_e aM_f aM_kept aM_tape aM_came aM_got aM_held aM_off aM_comesUp aM_comesDown aM_path aM_gets aM_gotNow aM_passing : Nat) (vM_isKept : Int32) (vM_taped : Int32) (vM_leaked : Int32) (vM_keptAll : Int32) (vM_offAll : Int32) (vM_up : Int64) (vM_down : Int64) (vM_sharesUp : Int64) (vM_sharesDown : Int64) (vM_onUp : Int64) (vM_onDown : Int64) (vM_great : Int32) (vM_triedOff : Int32) (vM_triedLeaked : Int32) (vM_triedKept : Int32) (vM_fitting : Int32) (vM_firstSet : Int32) (vM_inAll : Int32) (vM_inAny : Int32) (vM_at : Int32) (vM_sort : Int32) (vM_from : Int32) (vM_value : Int64) (vM_fault : Int32) (cM_bitsOf : Nat → Int32) (cM_sizeOf : Nat → Int32) (cM_number : Nat → Int32) (cM_found : Nat → Int32) (x1 : Int32) (x2 : Int32) (x3 : Int32) (out : Int32 × (Nat → Int32) × (Nat → Int32)) (h : f_X8_write x1 x2 x3 cM_bitsOf cM_sizeOf cM_number cM_found = some out) : Mi l yX8_write wsX8_write ({ frames := 3, cells := 0, slots := 0, locals := 66 } : Room) D (tyA cyI cyJ cyZ cyB cyO) [.ref aM, .int x1, .int x2, .int x3] (w_X8_write cyI cyJ cyZ cyB cyO aM aM_bitsOf aM_sizeOf aM_number aM_found aM_d aM_e aM_f aM_kept aM_tape aM_came aM_got aM_held aM_off aM_comesUp aM_comesDown aM_path aM_gets aM_gotNow aM_passing vM_isKept vM_taped vM_leaked vM_keptAll vM_offAll vM_up vM_down vM_sharesUp vM_sharesDown vM_onUp vM_onDown vM_great vM_triedOff vM_triedLeaked vM_triedKept vM_fitting vM_firstSet vM_inAll vM_inAny vM_at vM_sort vM_from vM_value vM_fault cM_bitsOf cM_sizeOf cM_number cM_found) (w_X8_write cyI cyJ cyZ cyB cyO aM aM_bitsOf aM_sizeOf aM_number aM_found aM_d aM_e aM_f aM_kept aM_tape aM_came aM_got aM_held aM_off aM_comesUp aM_comesDown aM_path aM_gets aM_gotNow aM_passing vM_isKept vM_taped vM_leaked vM_keptAll vM_offAll vM_up vM_down vM_sharesUp vM_sharesDown vM_onUp vM_onDown vM_great vM_triedOff vM_triedLeaked vM_triedKept vM_fitting vM_firstSet vM_inAll vM_inAny vM_at vM_sort vM_from vM_value vM_fault cM_bitsOf cM_sizeOf out.2.1 out.2.2) out.1 := by
  refine Mi.mk (cc := cX8_write) (maxL := 5) (rt := .int) (own := RX8) (by decide) rfl rfl (Nat.le_of_ble_eq_true rfl) ?_
  intro p e s m args below meth c A Q F hK hP hD hA hret ls hl
  obtain ⟨hx, hb, hml, hown, hts⟩ := id F
  have hS : va_S A s.heap s.heap [] := va_S.rf
  have hl : lv_has ls 5 [(0, .ref aM), (1, .int x1), (2, .int x2), (3, .int x3)] := hl
  have in_X8 : ∀ w ∈ wsX80, w ∈ wsX8_write := by decide +kernel
  have q4 := hts (Cond.methodLink RX8 261 yX8_whyNone) (List.mem_of_getElem? (i := 4) rfl)
  have q2 := hts (Cond.fieldLink RX8 63 "ThirdFountainModel" "number" "[I") (List.mem_of_getElem? (i := 2) rfl)
  have q3 := hts (Cond.fieldLink RX8 57 "ThirdFountainModel" "bitsOf" "[I") (List.mem_of_getElem? (i := 3) rfl)
  have q16 := hts (Cond.methodLink RX8 115 yX8_finds) (List.mem_of_getElem? (i := 16) rfl)
  have q1 := hts (Cond.fieldLink RX8 60 "ThirdFountainModel" "sizeOf" "[I") (List.mem_of_getElem? (i := 1) rfl)
  have q13 := hts (Cond.methodLink RX8 70 yX8_in) (List.mem_of_getElem? (i := 13) rfl)
  unfold f_X8_write at h
  refine lv_aload_n hx hb dX8_write_0 rfl (lv_at hl 0 rfl) ?_
  refine lv_iload_n hx hb dX8_write_1 rfl (lv_at hl 1 rfl) ?_
  obtain ⟨u1, hu1, h⟩ := bd_some h
  refine cl_Vi (rest := []) F hK hP hD hS hA hl (t_X8_whyNone l D cyI cyJ cyZ cyB cyO aM aM_bitsOf aM_d aM_e aM_f aM_kept aM_found aM_tape aM_came aM_got aM_held aM_off aM_comesUp aM_comesDown aM_path aM_gets aM_gotNow aM_sizeOf aM_number aM_passing vM_isKept vM_taped vM_leaked vM_keptAll vM_offAll vM_up vM_down vM_sharesUp vM_sharesDown vM_onUp vM_onDown vM_great vM_triedOff vM_triedLeaked vM_triedKept vM_fitting vM_firstSet vM_inAll vM_inAny vM_at vM_sort vM_from vM_value vM_fault cM_bitsOf x1 u1 hu1) (cwV 1 hts gX8_write_X8_whyNone rfl rfl rfl (by decide +kernel) ⟨Nat.le_of_ble_eq_true rfl, Nat.le_of_ble_eq_true rfl⟩) 0 [0, 1] [1, 2, 0, 0, 0] [] (w_X8_write cyI cyJ cyZ cyB cyO aM aM_bitsOf aM_sizeOf aM_number aM_found aM_d aM_e aM_f aM_kept aM_tape aM_came aM_got aM_held aM_off aM_comesUp aM_comesDown aM_path aM_gets aM_gotNow aM_passing vM_isKept vM_taped vM_leaked vM_keptAll vM_offAll vM_up vM_down vM_sharesUp vM_sharesDown vM_onUp vM_onDown vM_great vM_triedOff vM_triedLeaked vM_triedKept vM_fitting vM_firstSet vM_inAll vM_inAny vM_at vM_sort vM_from vM_value vM_fault cM_bitsOf cM_sizeOf cM_number cM_found) rfl rfl rfl rfl rfl (by decide +kernel) rfl rfl (Nat.le_of_ble_eq_true rfl) ⟨Nat.zero_le _, Nat.zero_le _⟩ dX8_write_2 (fun H locs hP hD hS => ?_)
  refine lv_istore (lv' := [(4, .int u1), (0, .ref aM), (1, .int x1), (2, .int x2), (3, .int x3)]) hx hb dX8_write_5 hl (by decide) rfl (fun ls hl => ?_)
  refine lv_iload hx hb dX8_write_7 (lv_at hl 0 rfl) ?_
  have j36 : ∀ (t0 : Int32) (cM_number : Nat → Int32) (cM_found : Nat → Int32) (H : Heap) (locs : List Loc) (ls : Array Slot), va_P D vwCl (w_X8_write cyI cyJ cyZ cyB cyO aM aM_bitsOf aM_sizeOf aM_number aM_found aM_d aM_e aM_f aM_kept aM_tape aM_came aM_got aM_held aM_off aM_comesUp aM_comesDown aM_path aM_gets aM_gotNow aM_passing vM_isKept vM_taped vM_leaked vM_keptAll vM_offAll vM_up vM_down vM_sharesUp vM_sharesDown vM_onUp vM_onDown vM_great vM_triedOff vM_triedLeaked vM_triedKept vM_fitting vM_firstSet vM_inAll vM_inAny vM_at vM_sort vM_from vM_value vM_fault cM_bitsOf cM_sizeOf cM_number cM_found) H → va_D A (w_X8_write cyI cyJ cyZ cyB cyO aM aM_bitsOf aM_sizeOf aM_number aM_found aM_d aM_e aM_f aM_kept aM_tape aM_came aM_got aM_held aM_off aM_comesUp aM_comesDown aM_path aM_gets aM_gotNow aM_passing vM_isKept vM_taped vM_leaked vM_keptAll vM_offAll vM_up vM_down vM_sharesUp vM_sharesDown vM_onUp vM_onDown vM_great vM_triedOff vM_triedLeaked vM_triedKept vM_fitting vM_firstSet vM_inAll vM_inAny vM_at vM_sort vM_from vM_value vM_fault cM_bitsOf cM_sizeOf cM_number cM_found) → va_S A s.heap H locs → lv_has ls 5 [(0, .ref aM), (1, .int x1), (2, .int x2), (3, .int x3)] → f_X8_write_J36 x1 x2 x3 cM_bitsOf cM_sizeOf t0 cM_number cM_found = some out → W p l e ({ frames := 3, cells := 0, slots := 0, locals := 66 } : Room) s m args below meth c H locs 0 0 Q (F0 m 36 ls [.int t0]) := by
    intro t0 cM_number cM_found H locs ls hP hD hS hl h
    unfold f_X8_write_J36 at h
    refine lv_istore (lv' := [(4, .int t0), (0, .ref aM), (1, .int x1), (2, .int x2), (3, .int x3)]) hx hb dX8_write_36 hl (by decide) rfl (fun ls hl => ?_)
    refine lv_iload hx hb dX8_write_38 (lv_at hl 0 rfl) ?_
    refine lv_if_lt (tgt := 50) hx hb dX8_write_40 (by decide) (fun c2 => ?_) (fun c2 => ?_)
    · have h := br_pos c2 h
      refine lv_aload_n hx hb dX8_write_50 rfl (lv_at hl 1 rfl) ?_
      refine va_get (D := D) (ci := 7) (v := .ref aM_number) (C := RX8) (T := TX8) (N := 43) hx hb hts in_X8 hown hK hP 0 rfl rfl 41 (by decide) q2 (fun _ h9 => h9) rfl dX8_write_51 ?_
      refine lv_bipush (v := 40) hx hb dX8_write_54 (by decide) ?_
      refine lv_iload_n hx hb dX8_write_56 rfl (lv_at hl 2 rfl) ?_
      refine lv_imul hx hb dX8_write_57 ?_
      refine lv_iload_n hx hb dX8_write_58 rfl (lv_at hl 3 rfl) ?_
      refine lv_iadd hx hb dX8_write_59 ?_
      refine lv_aload_n hx hb dX8_write_60 rfl (lv_at hl 1 rfl) ?_
      refine va_get (D := D) (ci := 7) (v := .ref aM_bitsOf) (C := RX8) (T := TX8) (N := 43) hx hb hts in_X8 hown hK hP 0 rfl rfl 39 (by decide) q3 (fun _ h9 => h9) rfl dX8_write_61 ?_
      refine lv_iload_n hx hb dX8_write_64 rfl (lv_at hl 2 rfl) ?_
      obtain ⟨g3, h⟩ := gd_some h
      refine va_iald hx hb hK hP 1 0 rfl rfl g3 dX8_write_65 ?_
      refine lv_bipush (v := 8) hx hb dX8_write_66 (by decide) ?_
      refine lv_icmp_ne (tgt := 76) hx hb dX8_write_68 (by decide) (fun c4 => ?_) (fun c4 => ?_)
      · have h := br_neg c4 h
        refine lv_aload_n hx hb dX8_write_76 rfl (lv_at hl 1 rfl) ?_
        refine va_get (D := D) (ci := 7) (v := .ref aM_bitsOf) (C := RX8) (T := TX8) (N := 43) hx hb hts in_X8 hown hK hP 0 rfl rfl 39 (by decide) q3 (fun _ h9 => h9) rfl dX8_write_77 ?_
        refine lv_iload_n hx hb dX8_write_80 rfl (lv_at hl 2 rfl) ?_
        obtain ⟨g5, h⟩ := gd_some h
        refine va_iald hx hb hK hP 1 0 rfl rfl g5 dX8_write_81 ?_
        refine lv_bipush (v := 16) hx hb dX8_write_82 (by decide) ?_
        refine lv_icmp_ne (tgt := 92) hx hb dX8_write_84 (by decide) (fun c6 => ?_) (fun c6 => ?_)
        · have h := br_neg c6 h
          refine lv_iload_n hx hb dX8_write_92 rfl (lv_at hl 4 rfl) ?_
          obtain ⟨g7, h⟩ := gd_some h
          refine va_iast hx hb hK hP hD hS 3 0 rfl rfl g7 dX8_write_93 (fun H locs hP hD hS => ?_)
          have hP : va_P D vwCl (w_X8_write cyI cyJ cyZ cyB cyO aM aM_bitsOf aM_sizeOf aM_number aM_found aM_d aM_e aM_f aM_kept aM_tape aM_came aM_got aM_held aM_off aM_comesUp aM_comesDown aM_path aM_gets aM_gotNow aM_passing vM_isKept vM_taped vM_leaked vM_keptAll vM_offAll vM_up vM_down vM_sharesUp vM_sharesDown vM_onUp vM_onDown vM_great vM_triedOff vM_triedLeaked vM_triedKept vM_fitting vM_firstSet vM_inAll vM_inAny vM_at vM_sort vM_from vM_value vM_fault cM_bitsOf cM_sizeOf (upd cM_number (((40 : Int32) * x1) + x2).toNatClampNeg x3) cM_found) H := hP
          have hD : va_D A (w_X8_write cyI cyJ cyZ cyB cyO aM aM_bitsOf aM_sizeOf aM_number aM_found aM_d aM_e aM_f aM_kept aM_tape aM_came aM_got aM_held aM_off aM_comesUp aM_comesDown aM_path aM_gets aM_gotNow aM_passing vM_isKept vM_taped vM_leaked vM_keptAll vM_offAll vM_up vM_down vM_sharesUp vM_sharesDown vM_onUp vM_onDown vM_great vM_triedOff vM_triedLeaked vM_triedKept vM_fitting vM_firstSet vM_inAll vM_inAny vM_at vM_sort vM_from vM_value vM_fault cM_bitsOf cM_sizeOf (upd cM_number (((40 : Int32) * x1) + x2).toNatClampNeg x3) cM_found) := hD
          refine lv_iconst (v := 1) hx hb dX8_write_94 (by decide) ?_
          obtain rfl := Option.some.inj h
          exact hret _ _ _ _ _ hP hD hS dX8_write_95 rfl rfl
        · have h := br_pos c6 h
          refine lv_iload_n hx hb dX8_write_87 rfl (lv_at hl 4 rfl) ?_
          refine lv_i2s hx hb dX8_write_88 rfl ?_
          refine lv_goto (tgt := 93) hx hb dX8_write_89 (by decide) ?_
          obtain ⟨g8, h⟩ := gd_some h
          refine va_iast hx hb hK hP hD hS 3 0 rfl rfl g8 dX8_write_93 (fun H locs hP hD hS => ?_)
          have hP : va_P D vwCl (w_X8_write cyI cyJ cyZ cyB cyO aM aM_bitsOf aM_sizeOf aM_number aM_found aM_d aM_e aM_f aM_kept aM_tape aM_came aM_got aM_held aM_off aM_comesUp aM_comesDown aM_path aM_gets aM_gotNow aM_passing vM_isKept vM_taped vM_leaked vM_keptAll vM_offAll vM_up vM_down vM_sharesUp vM_sharesDown vM_onUp vM_onDown vM_great vM_triedOff vM_triedLeaked vM_triedKept vM_fitting vM_firstSet vM_inAll vM_inAny vM_at vM_sort vM_from vM_value vM_fault cM_bitsOf cM_sizeOf (upd cM_number (((40 : Int32) * x1) + x2).toNatClampNeg x3.toInt16.toInt32) cM_found) H := hP
          have hD : va_D A (w_X8_write cyI cyJ cyZ cyB cyO aM aM_bitsOf aM_sizeOf aM_number aM_found aM_d aM_e aM_f aM_kept aM_tape aM_came aM_got aM_held aM_off aM_comesUp aM_comesDown aM_path aM_gets aM_gotNow aM_passing vM_isKept vM_taped vM_leaked vM_keptAll vM_offAll vM_up vM_down vM_sharesUp vM_sharesDown vM_onUp vM_onDown vM_great vM_triedOff vM_triedLeaked vM_triedKept vM_fitting vM_firstSet vM_inAll vM_inAny vM_at vM_sort vM_from vM_value vM_fault cM_bitsOf cM_sizeOf (upd cM_number (((40 : Int32) * x1) + x2).toNatClampNeg x3.toInt16.toInt32) cM_found) := hD
          refine lv_iconst (v := 1) hx hb dX8_write_94 (by decide) ?_
          obtain rfl := Option.some.inj h
          exact hret _ _ _ _ _ hP hD hS dX8_write_95 rfl rfl
      · have h := br_pos c4 h
        refine lv_iload_n hx hb dX8_write_71 rfl (lv_at hl 4 rfl) ?_
        refine lv_i2b hx hb dX8_write_72 rfl ?_
        refine lv_goto (tgt := 93) hx hb dX8_write_73 (by decide) ?_
        obtain ⟨g9, h⟩ := gd_some h
        refine va_iast hx hb hK hP hD hS 3 0 rfl rfl g9 dX8_write_93 (fun H locs hP hD hS => ?_)
        have hP : va_P D vwCl (w_X8_write cyI cyJ cyZ cyB cyO aM aM_bitsOf aM_sizeOf aM_number aM_found aM_d aM_e aM_f aM_kept aM_tape aM_came aM_got aM_held aM_off aM_comesUp aM_comesDown aM_path aM_gets aM_gotNow aM_passing vM_isKept vM_taped vM_leaked vM_keptAll vM_offAll vM_up vM_down vM_sharesUp vM_sharesDown vM_onUp vM_onDown vM_great vM_triedOff vM_triedLeaked vM_triedKept vM_fitting vM_firstSet vM_inAll vM_inAny vM_at vM_sort vM_from vM_value vM_fault cM_bitsOf cM_sizeOf (upd cM_number (((40 : Int32) * x1) + x2).toNatClampNeg x3.toInt8.toInt32) cM_found) H := hP
        have hD : va_D A (w_X8_write cyI cyJ cyZ cyB cyO aM aM_bitsOf aM_sizeOf aM_number aM_found aM_d aM_e aM_f aM_kept aM_tape aM_came aM_got aM_held aM_off aM_comesUp aM_comesDown aM_path aM_gets aM_gotNow aM_passing vM_isKept vM_taped vM_leaked vM_keptAll vM_offAll vM_up vM_down vM_sharesUp vM_sharesDown vM_onUp vM_onDown vM_great vM_triedOff vM_triedLeaked vM_triedKept vM_fitting vM_firstSet vM_inAll vM_inAny vM_at vM_sort vM_from vM_value vM_fault cM_bitsOf cM_sizeOf (upd cM_number (((40 : Int32) * x1) + x2).toNatClampNeg x3.toInt8.toInt32) cM_found) := hD
        refine lv_iconst (v := 1) hx hb dX8_write_94 (by decide) ?_
        obtain rfl := Option.some.inj h
        exact hret _ _ _ _ _ hP hD hS dX8_write_95 rfl rfl
    · have h := br_neg c2 h
      refine lv_aload_n hx hb dX8_write_43 rfl (lv_at hl 1 rfl) ?_
      refine lv_iload hx hb dX8_write_44 (lv_at hl 0 rfl) ?_
      obtain ⟨u10, hu10, h⟩ := bd_some h
      refine cl_Vi (rest := []) F hK hP hD hS hA hl (t_X8_finds l D cyI cyJ cyZ cyB cyO aM aM_found aM_d aM_e aM_f aM_kept aM_tape aM_came aM_got aM_held aM_off aM_comesUp aM_comesDown aM_path aM_gets aM_gotNow aM_bitsOf aM_sizeOf aM_number aM_passing vM_isKept vM_taped vM_leaked vM_keptAll vM_offAll vM_up vM_down vM_sharesUp vM_sharesDown vM_onUp vM_onDown vM_great vM_triedOff vM_triedLeaked vM_triedKept vM_fitting vM_firstSet vM_inAll vM_inAny vM_at vM_sort vM_from vM_value vM_fault cM_found t0 u10 hu10) (cwV 1 hts gX8_write_X8_finds rfl rfl rfl (by decide +kernel) ⟨Nat.le_of_ble_eq_true rfl, Nat.le_of_ble_eq_true rfl⟩) 0 [0, 4] [1, 0, 0, 0, 2] [] (w_X8_write cyI cyJ cyZ cyB cyO aM aM_bitsOf aM_sizeOf aM_number aM_found aM_d aM_e aM_f aM_kept aM_tape aM_came aM_got aM_held aM_off aM_comesUp aM_comesDown aM_path aM_gets aM_gotNow aM_passing vM_isKept vM_taped vM_leaked vM_keptAll vM_offAll vM_up vM_down vM_sharesUp vM_sharesDown vM_onUp vM_onDown vM_great vM_triedOff vM_triedLeaked vM_triedKept vM_fitting vM_firstSet vM_inAll vM_inAny vM_at vM_sort vM_from vM_value vM_fault cM_bitsOf cM_sizeOf cM_number u10.2) rfl rfl rfl rfl rfl (by decide +kernel) rfl rfl (Nat.le_of_ble_eq_true rfl) ⟨Nat.zero_le _, Nat.zero_le _⟩ dX8_write_46 (fun H locs hP hD hS => ?_)
      obtain rfl := Option.some.inj h
      exact hret _ _ _ _ _ hP hD hS dX8_write_49 rfl rfl
  refine lv_if_ge (tgt := 34) hx hb dX8_write_9 (by decide) (fun c11 => ?_) (fun c11 => ?_)
  · have h := br_pos c11 h
    refine lv_iload hx hb dX8_write_34 (lv_at hl 0 rfl) ?_
    exact j36 u1 cM_number cM_found _ _ _ hP hD hS (lv_sub hl [1, 2, 3, 4] rfl) h
  · have h := br_neg c11 h
    refine lv_iload_n hx hb dX8_write_12 rfl (lv_at hl 3 rfl) ?_
    refine lv_i2l hx hb dX8_write_13 rfl ?_
    refine lv_lconst (v := 0) hx hb dX8_write_14 (by decide) ?_
    refine lv_aload_n hx hb dX8_write_15 rfl (lv_at hl 1 rfl) ?_
    refine va_get (D := D) (ci := 7) (v := .ref aM_sizeOf) (C := RX8) (T := TX8) (N := 43) hx hb hts in_X8 hown hK hP 0 rfl rfl 40 (by decide) q1 (fun _ h9 => h9) rfl dX8_write_16 ?_
    refine lv_iload_n hx hb dX8_write_19 rfl (lv_at hl 2 rfl) ?_
    obtain ⟨g12, h⟩ := gd_some h
    refine va_iald hx hb hK hP 2 0 rfl rfl g12 dX8_write_20 ?_
    refine lv_iconst (v := 1) hx hb dX8_write_21 (by decide) ?_
    refine lv_isub hx hb dX8_write_22 ?_
    refine lv_i2l hx hb dX8_write_23 rfl ?_
    obtain ⟨u13, hu13, h⟩ := bd_some h
    refine cl_Si (rest := []) F hK hP hD hS hA hl (t_X8_in l D cyI cyJ cyZ cyB cyO x2.toInt64 (0 : Int64) (((cM_sizeOf x1.toNatClampNeg) - (1 : Int32)).toInt64) u13 hu13) (va_cwS 3 hts gX8_write_X8_in rfl rfl rfl (by decide +kernel) ⟨Nat.le_of_ble_eq_true rfl, Nat.le_of_ble_eq_true rfl⟩) [] [0, 0, 0, 0, 0] [] (w_X8_write cyI cyJ cyZ cyB cyO aM aM_bitsOf aM_sizeOf aM_number aM_found aM_d aM_e aM_f aM_kept aM_tape aM_came aM_got aM_held aM_off aM_comesUp aM_comesDown aM_path aM_gets aM_gotNow aM_passing vM_isKept vM_taped vM_leaked vM_keptAll vM_offAll vM_up vM_down vM_sharesUp vM_sharesDown vM_onUp vM_onDown vM_great vM_triedOff vM_triedLeaked vM_triedKept vM_fitting vM_firstSet vM_inAll vM_inAny vM_at vM_sort vM_from vM_value vM_fault cM_bitsOf cM_sizeOf cM_number cM_found) rfl rfl rfl (by decide +kernel) rfl rfl (Nat.le_of_ble_eq_true rfl) ⟨Nat.zero_le _, Nat.zero_le _⟩ dX8_write_24 (fun H locs hP hD hS => ?_)
    refine lv_if_ne (tgt := 34) hx hb dX8_write_27 (by decide) (fun c14 => ?_) (fun c14 => ?_)
    · have h := br_neg c14 h
      refine lv_iload hx hb dX8_write_34 (lv_at hl 0 rfl) ?_
      exact j36 u1 cM_number cM_found _ _ _ hP hD hS (lv_sub hl [1, 2, 3, 4] rfl) h
    · have h := br_pos c14 h
      refine lv_iconst (v := 0) hx hb dX8_write_30 (by decide) ?_
      refine lv_goto (tgt := 36) hx hb dX8_write_31 (by decide) ?_
      exact j36 (0 : Int32) cM_number cM_found _ _ _ hP hD hS (lv_sub hl [1, 2, 3, 4] rfl) h
/-! ===== X8_copy ===== -/
def w_X8_copy (cyI cyJ cyZ cyB cyO : ClassId) (aM aM_found aM_bitsOf aM_sizeOf aM_passing aM_number aM_d aM_e aM_f aM_kept aM_tape aM_came aM_got aM_held aM_off aM_comesUp aM_comesDown aM_path aM_gets aM_gotNow : Nat) (vM_isKept : Int32) (vM_taped : Int32) (vM_leaked : Int32) (vM_keptAll : Int32) (vM_offAll : Int32) (vM_up : Int64) (vM_down : Int64) (vM_sharesUp : Int64) (vM_sharesDown : Int64) (vM_onUp : Int64) (vM_onDown : Int64) (vM_great : Int32) (vM_triedOff : Int32) (vM_triedLeaked : Int32) (vM_triedKept : Int32) (vM_fitting : Int32) (vM_firstSet : Int32) (vM_inAll : Int32) (vM_inAny : Int32) (vM_at : Int32) (vM_sort : Int32) (vM_from : Int32) (vM_value : Int64) (vM_fault : Int32) (cM_found : Nat → Int32) (cM_bitsOf : Nat → Int32) (cM_sizeOf : Nat → Int32) (cM_passing : Nat → Int32) (cM_number : Nat → Int32) : va_W := [(aM, .inr (7, [.ref aM_d, .ref aM_e, .ref aM_f, .ref aM_kept, .int vM_isKept, .ref aM_found, .ref aM_tape, .int vM_taped, .ref aM_came, .ref aM_got, .ref aM_held, .ref aM_off, .int vM_leaked, .int vM_keptAll, .int vM_offAll, .ref aM_comesUp, .ref aM_comesDown, .long vM_up, .long vM_down, .long vM_sharesUp, .long vM_sharesDown, .long vM_onUp, .long vM_onDown, .int vM_great, .ref aM_path, .ref aM_gets, .int vM_triedOff, .int vM_triedLeaked, .int vM_triedKept, .ref aM_gotNow, .int vM_fitting, .int vM_firstSet, .int vM_inAll, .int vM_inAny, .int vM_at, .int vM_sort, .int vM_from, .long vM_value, .int vM_fault, .ref aM_bitsOf, .ref aM_sizeOf, .ref aM_number, .ref aM_passing])), (aM_found, .inl (cyI, 7, .inl cM_found)), (aM_bitsOf, .inl (cyI, 4, .inl cM_bitsOf)), (aM_sizeOf, .inl (cyI, 4, .inl cM_sizeOf)), (aM_passing, .inl (cyI, 40, .inl cM_passing)), (aM_number, .inl (cyI, 160, .inl cM_number))]
set_option maxHeartbeats 4000000 in
set_option maxRecDepth 100000 in
theorem t_X8_copy (l : Launch) (D : va_G) (cyI cyJ cyZ cyB cyO : ClassId) (aM aM_found aM_bitsOf aM_sizeOf aM_passing aM_number aM_d aM_e aM_f aM_kept aM_tape aM_came aM_got aM_held aM_off aM_comesUp aM_comesDown aM_path aM_gets aM_gotNow : Nat) (vM_isKept : Int32) (vM_taped : Int32) (vM_leaked : Int32) (vM_keptAll : Int32) (vM_offAll : Int32) (vM_up : Int64) (vM_down : Int64) (vM_sharesUp : Int64) (vM_sharesDown : Int64) (vM_onUp : Int64) (vM_onDown : Int64) (vM_great : Int32) (vM_triedOff : Int32) (vM_triedLeaked : Int32) (vM_triedKept : Int32) (vM_fitting : Int32) (vM_firstSet : Int32) (vM_inAll : Int32) (vM_inAny : Int32) (vM_at : Int32) (vM_sort : Int32) (vM_from : Int32) (vM_value : Int64) (vM_fault : Int32) (cM_found : Nat → Int32) (cM_bitsOf : Nat → Int32) (cM_sizeOf : Nat → Int32) (cM_passing : Nat → Int32) (cM_number : Nat → Int32) (x1 : Int32) (x2 : Int32) (x3 : Int32) (x4 : Int32) (x5 : Int32) (out : Int32 × (Nat → Int32) × (Nat → Int32) × (Nat → Int32)) (h : f_X8_copy x1 x2 x3 x4 x5 cM_found cM_bitsOf cM_sizeOf cM_passing cM_number = some out) : Mi l yX8_copy wsX8_copy ({ frames := 2, cells := 0, slots := 0, locals := 45 } : Room) D (tyA cyI cyJ cyZ cyB cyO) [.ref aM, .int x1, .int x2, .int x3, .int x4, .int x5] (w_X8_copy cyI cyJ cyZ cyB cyO aM aM_found aM_bitsOf aM_sizeOf aM_passing aM_number aM_d aM_e aM_f aM_kept aM_tape aM_came aM_got aM_held aM_off aM_comesUp aM_comesDown aM_path aM_gets aM_gotNow vM_isKept vM_taped vM_leaked vM_keptAll vM_offAll vM_up vM_down vM_sharesUp vM_sharesDown vM_onUp vM_onDown vM_great vM_triedOff vM_triedLeaked vM_triedKept vM_fitting vM_firstSet vM_inAll vM_inAny vM_at vM_sort vM_from vM_value vM_fault cM_found cM_bitsOf cM_sizeOf cM_passing cM_number) (w_X8_copy cyI cyJ cyZ cyB cyO aM aM_found aM_bitsOf aM_sizeOf aM_passing aM_number aM_d aM_e aM_f aM_kept aM_tape aM_came aM_got aM_held aM_off aM_comesUp aM_comesDown aM_path aM_gets aM_gotNow vM_isKept vM_taped vM_leaked vM_keptAll vM_offAll vM_up vM_down vM_sharesUp vM_sharesDown vM_onUp vM_onDown vM_great vM_triedOff vM_triedLeaked vM_triedKept vM_fitting vM_firstSet vM_inAll vM_inAny vM_at vM_sort vM_from vM_value vM_fault out.2.1 cM_bitsOf cM_sizeOf out.2.2.1 out.2.2.2) out.1 := by
  refine Mi.mk (cc := cX8_copy) (maxL := 7) (rt := .int) (own := RX8) (by decide) rfl rfl (Nat.le_of_ble_eq_true rfl) ?_
  intro p e s m args below meth c A Q F hK hP hD hA hret ls hl
  obtain ⟨hx, hb, hml, hown, hts⟩ := id F
  have hS : va_S A s.heap s.heap [] := va_S.rf
  have hl : lv_has ls 7 [(0, .ref aM), (1, .int x1), (2, .int x2), (3, .int x3), (4, .int x4), (5, .int x5)] := hl
  have in_X8 : ∀ w ∈ wsX80, w ∈ wsX8_copy := by decide +kernel
  have q5 := hts (Cond.methodLink RX8 359 yX8_isSheet) (List.mem_of_getElem? (i := 5) rfl)
  have q13 := hts (Cond.methodLink RX8 115 yX8_finds) (List.mem_of_getElem? (i := 13) rfl)
  have q1 := hts (Cond.fieldLink RX8 57 "ThirdFountainModel" "bitsOf" "[I") (List.mem_of_getElem? (i := 1) rfl)
  have q2 := hts (Cond.fieldLink RX8 60 "ThirdFountainModel" "sizeOf" "[I") (List.mem_of_getElem? (i := 2) rfl)
  have q4 := hts (Cond.fieldLink RX8 63 "ThirdFountainModel" "number" "[I") (List.mem_of_getElem? (i := 4) rfl)
  have q3 := hts (Cond.fieldLink RX8 66 "ThirdFountainModel" "passing" "[I") (List.mem_of_getElem? (i := 3) rfl)
  unfold f_X8_copy at h
  refine lv_iload_n hx hb dX8_copy_0 rfl (lv_at hl 1 rfl) ?_
  obtain ⟨u1, hu1, h⟩ := bd_some h
  refine cl_Si (rest := []) F hK hP hD hS hA hl (t_X8_isSheet l D cyI cyJ cyZ cyB cyO x1 u1 hu1) (va_cwS 1 hts gX8_copy_X8_isSheet rfl rfl rfl (by decide +kernel) ⟨Nat.le_of_ble_eq_true rfl, Nat.le_of_ble_eq_true rfl⟩) [] [0, 0, 0, 0, 0, 0] [] (w_X8_copy cyI cyJ cyZ cyB cyO aM aM_found aM_bitsOf aM_sizeOf aM_passing aM_number aM_d aM_e aM_f aM_kept aM_tape aM_came aM_got aM_held aM_off aM_comesUp aM_comesDown aM_path aM_gets aM_gotNow vM_isKept vM_taped vM_leaked vM_keptAll vM_offAll vM_up vM_down vM_sharesUp vM_sharesDown vM_onUp vM_onDown vM_great vM_triedOff vM_triedLeaked vM_triedKept vM_fitting vM_firstSet vM_inAll vM_inAny vM_at vM_sort vM_from vM_value vM_fault cM_found cM_bitsOf cM_sizeOf cM_passing cM_number) rfl rfl rfl (by decide +kernel) rfl rfl (Nat.le_of_ble_eq_true rfl) ⟨Nat.zero_le _, Nat.zero_le _⟩ dX8_copy_1 (fun H locs hP hD hS => ?_)
  refine lv_if_eq (tgt := 14) hx hb dX8_copy_4 (by decide) (fun c2 => ?_) (fun c2 => ?_)
  · have h := br_pos c2 h
    refine lv_aload_n hx hb dX8_copy_14 rfl (lv_at hl 0 rfl) ?_
    refine lv_iconst (v := 0) hx hb dX8_copy_15 (by decide) ?_
    obtain ⟨u3, hu3, h⟩ := bd_some h
    refine cl_Vi (rest := []) F hK hP hD hS hA hl (t_X8_finds l D cyI cyJ cyZ cyB cyO aM aM_found aM_d aM_e aM_f aM_kept aM_tape aM_came aM_got aM_held aM_off aM_comesUp aM_comesDown aM_path aM_gets aM_gotNow aM_bitsOf aM_sizeOf aM_number aM_passing vM_isKept vM_taped vM_leaked vM_keptAll vM_offAll vM_up vM_down vM_sharesUp vM_sharesDown vM_onUp vM_onDown vM_great vM_triedOff vM_triedLeaked vM_triedKept vM_fitting vM_firstSet vM_inAll vM_inAny vM_at vM_sort vM_from vM_value vM_fault cM_found (0 : Int32) u3 hu3) (cwV 1 hts gX8_copy_X8_finds rfl rfl rfl (by decide +kernel) ⟨Nat.le_of_ble_eq_true rfl, Nat.le_of_ble_eq_true rfl⟩) 0 [0, 1] [1, 2, 0, 0, 0, 0] [] (w_X8_copy cyI cyJ cyZ cyB cyO aM aM_found aM_bitsOf aM_sizeOf aM_passing aM_number aM_d aM_e aM_f aM_kept aM_tape aM_came aM_got aM_held aM_off aM_comesUp aM_comesDown aM_path aM_gets aM_gotNow vM_isKept vM_taped vM_leaked vM_keptAll vM_offAll vM_up vM_down vM_sharesUp vM_sharesDown vM_onUp vM_onDown vM_great vM_triedOff vM_triedLeaked vM_triedKept vM_fitting vM_firstSet vM_inAll vM_inAny vM_at vM_sort vM_from vM_value vM_fault u3.2 cM_bitsOf cM_sizeOf cM_passing cM_number) rfl rfl rfl rfl rfl (by decide +kernel) rfl rfl (Nat.le_of_ble_eq_true rfl) ⟨Nat.zero_le _, Nat.zero_le _⟩ dX8_copy_16 (fun H locs hP hD hS => ?_)
    obtain rfl := Option.some.inj h
    exact hret _ _ _ _ _ hP hD hS dX8_copy_19 rfl rfl
  · have h := br_neg c2 h
    refine lv_iload_n hx hb dX8_copy_7 rfl (lv_at hl 3 rfl) ?_
    obtain ⟨u4, hu4, h⟩ := bd_some h
    refine cl_Si (rest := []) F hK hP hD hS hA hl (t_X8_isSheet l D cyI cyJ cyZ cyB cyO x3 u4 hu4) (va_cwS 1 hts gX8_copy_X8_isSheet rfl rfl rfl (by decide +kernel) ⟨Nat.le_of_ble_eq_true rfl, Nat.le_of_ble_eq_true rfl⟩) [] [0, 0, 0, 0, 0, 0] [] (w_X8_copy cyI cyJ cyZ cyB cyO aM aM_found aM_bitsOf aM_sizeOf aM_passing aM_number aM_d aM_e aM_f aM_kept aM_tape aM_came aM_got aM_held aM_off aM_comesUp aM_comesDown aM_path aM_gets aM_gotNow vM_isKept vM_taped vM_leaked vM_keptAll vM_offAll vM_up vM_down vM_sharesUp vM_sharesDown vM_onUp vM_onDown vM_great vM_triedOff vM_triedLeaked vM_triedKept vM_fitting vM_firstSet vM_inAll vM_inAny vM_at vM_sort vM_from vM_value vM_fault cM_found cM_bitsOf cM_sizeOf cM_passing cM_number) rfl rfl rfl (by decide +kernel) rfl rfl (Nat.le_of_ble_eq_true rfl) ⟨Nat.zero_le _, Nat.zero_le _⟩ dX8_copy_8 (fun H locs hP hD hS => ?_)
    refine lv_if_ne (tgt := 20) hx hb dX8_copy_11 (by decide) (fun c5 => ?_) (fun c5 => ?_)
    · have h := br_neg c5 h
      refine lv_aload_n hx hb dX8_copy_20 rfl (lv_at hl 0 rfl) ?_
      refine va_get (D := D) (ci := 7) (v := .ref aM_bitsOf) (C := RX8) (T := TX8) (N := 43) hx hb hts in_X8 hown hK hP 0 rfl rfl 39 (by decide) q1 (fun _ h9 => h9) rfl dX8_copy_21 ?_
      refine lv_iload_n hx hb dX8_copy_24 rfl (lv_at hl 1 rfl) ?_
      obtain ⟨g6, h⟩ := gd_some h
      refine va_iald hx hb hK hP 2 0 rfl rfl g6 dX8_copy_25 ?_
      refine lv_if_eq (tgt := 38) hx hb dX8_copy_26 (by decide) (fun c7 => ?_) (fun c7 => ?_)
      · have h := br_pos c7 h
        refine lv_aload_n hx hb dX8_copy_38 rfl (lv_at hl 0 rfl) ?_
        refine lv_iconst (v := 5) hx hb dX8_copy_39 (by decide) ?_
        obtain ⟨u8, hu8, h⟩ := bd_some h
        refine cl_Vi (rest := []) F hK hP hD hS hA hl (t_X8_finds l D cyI cyJ cyZ cyB cyO aM aM_found aM_d aM_e aM_f aM_kept aM_tape aM_came aM_got aM_held aM_off aM_comesUp aM_comesDown aM_path aM_gets aM_gotNow aM_bitsOf aM_sizeOf aM_number aM_passing vM_isKept vM_taped vM_leaked vM_keptAll vM_offAll vM_up vM_down vM_sharesUp vM_sharesDown vM_onUp vM_onDown vM_great vM_triedOff vM_triedLeaked vM_triedKept vM_fitting vM_firstSet vM_inAll vM_inAny vM_at vM_sort vM_from vM_value vM_fault cM_found (5 : Int32) u8 hu8) (cwV 1 hts gX8_copy_X8_finds rfl rfl rfl (by decide +kernel) ⟨Nat.le_of_ble_eq_true rfl, Nat.le_of_ble_eq_true rfl⟩) 0 [0, 1] [1, 2, 0, 0, 0, 0] [] (w_X8_copy cyI cyJ cyZ cyB cyO aM aM_found aM_bitsOf aM_sizeOf aM_passing aM_number aM_d aM_e aM_f aM_kept aM_tape aM_came aM_got aM_held aM_off aM_comesUp aM_comesDown aM_path aM_gets aM_gotNow vM_isKept vM_taped vM_leaked vM_keptAll vM_offAll vM_up vM_down vM_sharesUp vM_sharesDown vM_onUp vM_onDown vM_great vM_triedOff vM_triedLeaked vM_triedKept vM_fitting vM_firstSet vM_inAll vM_inAny vM_at vM_sort vM_from vM_value vM_fault u8.2 cM_bitsOf cM_sizeOf cM_passing cM_number) rfl rfl rfl rfl rfl (by decide +kernel) rfl rfl (Nat.le_of_ble_eq_true rfl) ⟨Nat.zero_le _, Nat.zero_le _⟩ dX8_copy_40 (fun H locs hP hD hS => ?_)
        obtain rfl := Option.some.inj h
        exact hret _ _ _ _ _ hP hD hS dX8_copy_43 rfl rfl
      · have h := br_neg c7 h
        refine lv_aload_n hx hb dX8_copy_29 rfl (lv_at hl 0 rfl) ?_
        refine va_get (D := D) (ci := 7) (v := .ref aM_bitsOf) (C := RX8) (T := TX8) (N := 43) hx hb hts in_X8 hown hK hP 0 rfl rfl 39 (by decide) q1 (fun _ h9 => h9) rfl dX8_copy_30 ?_
        refine lv_iload_n hx hb dX8_copy_33 rfl (lv_at hl 3 rfl) ?_
        obtain ⟨g9, h⟩ := gd_some h
        refine va_iald hx hb hK hP 2 0 rfl rfl g9 dX8_copy_34 ?_
        refine lv_if_ne (tgt := 44) hx hb dX8_copy_35 (by decide) (fun c10 => ?_) (fun c10 => ?_)
        · have h := br_neg c10 h
          refine lv_aload_n hx hb dX8_copy_44 rfl (lv_at hl 0 rfl) ?_
          refine va_get (D := D) (ci := 7) (v := .ref aM_bitsOf) (C := RX8) (T := TX8) (N := 43) hx hb hts in_X8 hown hK hP 0 rfl rfl 39 (by decide) q1 (fun _ h9 => h9) rfl dX8_copy_45 ?_
          refine lv_iload_n hx hb dX8_copy_48 rfl (lv_at hl 1 rfl) ?_
          obtain ⟨g11, h⟩ := gd_some h
          refine va_iald hx hb hK hP 2 0 rfl rfl g11 dX8_copy_49 ?_
          refine lv_aload_n hx hb dX8_copy_50 rfl (lv_at hl 0 rfl) ?_
          refine va_get (D := D) (ci := 7) (v := .ref aM_bitsOf) (C := RX8) (T := TX8) (N := 43) hx hb hts in_X8 hown hK hP 0 rfl rfl 39 (by decide) q1 (fun _ h9 => h9) rfl dX8_copy_51 ?_
          refine lv_iload_n hx hb dX8_copy_54 rfl (lv_at hl 3 rfl) ?_
          obtain ⟨g12, h⟩ := gd_some h
          refine va_iald hx hb hK hP 2 0 rfl rfl g12 dX8_copy_55 ?_
          refine lv_icmp_eq (tgt := 65) hx hb dX8_copy_56 (by decide) (fun c13 => ?_) (fun c13 => ?_)
          · have h := br_pos c13 h
            refine lv_iload_n hx hb dX8_copy_65 rfl (lv_at hl 2 rfl) ?_
            refine lv_if_lt (tgt := 114) hx hb dX8_copy_66 (by decide) (fun c14 => ?_) (fun c14 => ?_)
            · have h := br_pos c14 h
              refine lv_aload_n hx hb dX8_copy_114 rfl (lv_at hl 0 rfl) ?_
              refine lv_iconst (v := 0) hx hb dX8_copy_115 (by decide) ?_
              obtain ⟨u15, hu15, h⟩ := bd_some h
              refine cl_Vi (rest := []) F hK hP hD hS hA hl (t_X8_finds l D cyI cyJ cyZ cyB cyO aM aM_found aM_d aM_e aM_f aM_kept aM_tape aM_came aM_got aM_held aM_off aM_comesUp aM_comesDown aM_path aM_gets aM_gotNow aM_bitsOf aM_sizeOf aM_number aM_passing vM_isKept vM_taped vM_leaked vM_keptAll vM_offAll vM_up vM_down vM_sharesUp vM_sharesDown vM_onUp vM_onDown vM_great vM_triedOff vM_triedLeaked vM_triedKept vM_fitting vM_firstSet vM_inAll vM_inAny vM_at vM_sort vM_from vM_value vM_fault cM_found (0 : Int32) u15 hu15) (cwV 1 hts gX8_copy_X8_finds rfl rfl rfl (by decide +kernel) ⟨Nat.le_of_ble_eq_true rfl, Nat.le_of_ble_eq_true rfl⟩) 0 [0, 1] [1, 2, 0, 0, 0, 0] [] (w_X8_copy cyI cyJ cyZ cyB cyO aM aM_found aM_bitsOf aM_sizeOf aM_passing aM_number aM_d aM_e aM_f aM_kept aM_tape aM_came aM_got aM_held aM_off aM_comesUp aM_comesDown aM_path aM_gets aM_gotNow vM_isKept vM_taped vM_leaked vM_keptAll vM_offAll vM_up vM_down vM_sharesUp vM_sharesDown vM_onUp vM_onDown vM_great vM_triedOff vM_triedLeaked vM_triedKept vM_fitting vM_firstSet vM_inAll vM_inAny vM_at vM_sort vM_from vM_value vM_fault u15.2 cM_bitsOf cM_sizeOf cM_passing cM_number) rfl rfl rfl rfl rfl (by decide +kernel) rfl rfl (Nat.le_of_ble_eq_true rfl) ⟨Nat.zero_le _, Nat.zero_le _⟩ dX8_copy_116 (fun H locs hP hD hS => ?_)
              obtain rfl := Option.some.inj h
              exact hret _ _ _ _ _ hP hD hS dX8_copy_119 rfl rfl
            · have h := br_neg c14 h
              refine lv_iload hx hb dX8_copy_69 (lv_at hl 4 rfl) ?_
              refine lv_if_lt (tgt := 114) hx hb dX8_copy_71 (by decide) (fun c16 => ?_) (fun c16 => ?_)
              · have h := br_pos c16 h
                refine lv_aload_n hx hb dX8_copy_114 rfl (lv_at hl 0 rfl) ?_
                refine lv_iconst (v := 0) hx hb dX8_copy_115 (by decide) ?_
                obtain ⟨u17, hu17, h⟩ := bd_some h
                refine cl_Vi (rest := []) F hK hP hD hS hA hl (t_X8_finds l D cyI cyJ cyZ cyB cyO aM aM_found aM_d aM_e aM_f aM_kept aM_tape aM_came aM_got aM_held aM_off aM_comesUp aM_comesDown aM_path aM_gets aM_gotNow aM_bitsOf aM_sizeOf aM_number aM_passing vM_isKept vM_taped vM_leaked vM_keptAll vM_offAll vM_up vM_down vM_sharesUp vM_sharesDown vM_onUp vM_onDown vM_great vM_triedOff vM_triedLeaked vM_triedKept vM_fitting vM_firstSet vM_inAll vM_inAny vM_at vM_sort vM_from vM_value vM_fault cM_found (0 : Int32) u17 hu17) (cwV 1 hts gX8_copy_X8_finds rfl rfl rfl (by decide +kernel) ⟨Nat.le_of_ble_eq_true rfl, Nat.le_of_ble_eq_true rfl⟩) 0 [0, 1] [1, 2, 0, 0, 0, 0] [] (w_X8_copy cyI cyJ cyZ cyB cyO aM aM_found aM_bitsOf aM_sizeOf aM_passing aM_number aM_d aM_e aM_f aM_kept aM_tape aM_came aM_got aM_held aM_off aM_comesUp aM_comesDown aM_path aM_gets aM_gotNow vM_isKept vM_taped vM_leaked vM_keptAll vM_offAll vM_up vM_down vM_sharesUp vM_sharesDown vM_onUp vM_onDown vM_great vM_triedOff vM_triedLeaked vM_triedKept vM_fitting vM_firstSet vM_inAll vM_inAny vM_at vM_sort vM_from vM_value vM_fault u17.2 cM_bitsOf cM_sizeOf cM_passing cM_number) rfl rfl rfl rfl rfl (by decide +kernel) rfl rfl (Nat.le_of_ble_eq_true rfl) ⟨Nat.zero_le _, Nat.zero_le _⟩ dX8_copy_116 (fun H locs hP hD hS => ?_)
                obtain rfl := Option.some.inj h
                exact hret _ _ _ _ _ hP hD hS dX8_copy_119 rfl rfl
              · have h := br_neg c16 h
                refine lv_iload hx hb dX8_copy_74 (lv_at hl 5 rfl) ?_
                refine lv_if_lt (tgt := 114) hx hb dX8_copy_76 (by decide) (fun c18 => ?_) (fun c18 => ?_)
                · have h := br_pos c18 h
                  refine lv_aload_n hx hb dX8_copy_114 rfl (lv_at hl 0 rfl) ?_
                  refine lv_iconst (v := 0) hx hb dX8_copy_115 (by decide) ?_
                  obtain ⟨u19, hu19, h⟩ := bd_some h
                  refine cl_Vi (rest := []) F hK hP hD hS hA hl (t_X8_finds l D cyI cyJ cyZ cyB cyO aM aM_found aM_d aM_e aM_f aM_kept aM_tape aM_came aM_got aM_held aM_off aM_comesUp aM_comesDown aM_path aM_gets aM_gotNow aM_bitsOf aM_sizeOf aM_number aM_passing vM_isKept vM_taped vM_leaked vM_keptAll vM_offAll vM_up vM_down vM_sharesUp vM_sharesDown vM_onUp vM_onDown vM_great vM_triedOff vM_triedLeaked vM_triedKept vM_fitting vM_firstSet vM_inAll vM_inAny vM_at vM_sort vM_from vM_value vM_fault cM_found (0 : Int32) u19 hu19) (cwV 1 hts gX8_copy_X8_finds rfl rfl rfl (by decide +kernel) ⟨Nat.le_of_ble_eq_true rfl, Nat.le_of_ble_eq_true rfl⟩) 0 [0, 1] [1, 2, 0, 0, 0, 0] [] (w_X8_copy cyI cyJ cyZ cyB cyO aM aM_found aM_bitsOf aM_sizeOf aM_passing aM_number aM_d aM_e aM_f aM_kept aM_tape aM_came aM_got aM_held aM_off aM_comesUp aM_comesDown aM_path aM_gets aM_gotNow vM_isKept vM_taped vM_leaked vM_keptAll vM_offAll vM_up vM_down vM_sharesUp vM_sharesDown vM_onUp vM_onDown vM_great vM_triedOff vM_triedLeaked vM_triedKept vM_fitting vM_firstSet vM_inAll vM_inAny vM_at vM_sort vM_from vM_value vM_fault u19.2 cM_bitsOf cM_sizeOf cM_passing cM_number) rfl rfl rfl rfl rfl (by decide +kernel) rfl rfl (Nat.le_of_ble_eq_true rfl) ⟨Nat.zero_le _, Nat.zero_le _⟩ dX8_copy_116 (fun H locs hP hD hS => ?_)
                  obtain rfl := Option.some.inj h
                  exact hret _ _ _ _ _ hP hD hS dX8_copy_119 rfl rfl
                · have h := br_neg c18 h
                  refine lv_iload_n hx hb dX8_copy_79 rfl (lv_at hl 2 rfl) ?_
                  refine lv_i2l hx hb dX8_copy_80 rfl ?_
                  refine lv_iload hx hb dX8_copy_81 (lv_at hl 5 rfl) ?_
                  refine lv_i2l hx hb dX8_copy_83 rfl ?_
                  refine lv_ladd hx hb dX8_copy_84 ?_
                  refine lv_aload_n hx hb dX8_copy_85 rfl (lv_at hl 0 rfl) ?_
                  refine va_get (D := D) (ci := 7) (v := .ref aM_sizeOf) (C := RX8) (T := TX8) (N := 43) hx hb hts in_X8 hown hK hP 0 rfl rfl 40 (by decide) q2 (fun _ h9 => h9) rfl dX8_copy_86 ?_
                  refine lv_iload_n hx hb dX8_copy_89 rfl (lv_at hl 1 rfl) ?_
                  obtain ⟨g20, h⟩ := gd_some h
                  refine va_iald hx hb hK hP 3 0 rfl rfl g20 dX8_copy_90 ?_
                  refine lv_i2l hx hb dX8_copy_91 rfl ?_
                  refine W.lcmp hx hb dX8_copy_92 ?_
                  refine lv_if_gt (tgt := 114) hx hb dX8_copy_93 (by decide) (fun c21 => ?_) (fun c21 => ?_)
                  · have h := br_pos c21 h
                    refine lv_aload_n hx hb dX8_copy_114 rfl (lv_at hl 0 rfl) ?_
                    refine lv_iconst (v := 0) hx hb dX8_copy_115 (by decide) ?_
                    obtain ⟨u22, hu22, h⟩ := bd_some h
                    refine cl_Vi (rest := []) F hK hP hD hS hA hl (t_X8_finds l D cyI cyJ cyZ cyB cyO aM aM_found aM_d aM_e aM_f aM_kept aM_tape aM_came aM_got aM_held aM_off aM_comesUp aM_comesDown aM_path aM_gets aM_gotNow aM_bitsOf aM_sizeOf aM_number aM_passing vM_isKept vM_taped vM_leaked vM_keptAll vM_offAll vM_up vM_down vM_sharesUp vM_sharesDown vM_onUp vM_onDown vM_great vM_triedOff vM_triedLeaked vM_triedKept vM_fitting vM_firstSet vM_inAll vM_inAny vM_at vM_sort vM_from vM_value vM_fault cM_found (0 : Int32) u22 hu22) (cwV 1 hts gX8_copy_X8_finds rfl rfl rfl (by decide +kernel) ⟨Nat.le_of_ble_eq_true rfl, Nat.le_of_ble_eq_true rfl⟩) 0 [0, 1] [1, 2, 0, 0, 0, 0] [] (w_X8_copy cyI cyJ cyZ cyB cyO aM aM_found aM_bitsOf aM_sizeOf aM_passing aM_number aM_d aM_e aM_f aM_kept aM_tape aM_came aM_got aM_held aM_off aM_comesUp aM_comesDown aM_path aM_gets aM_gotNow vM_isKept vM_taped vM_leaked vM_keptAll vM_offAll vM_up vM_down vM_sharesUp vM_sharesDown vM_onUp vM_onDown vM_great vM_triedOff vM_triedLeaked vM_triedKept vM_fitting vM_firstSet vM_inAll vM_inAny vM_at vM_sort vM_from vM_value vM_fault u22.2 cM_bitsOf cM_sizeOf cM_passing cM_number) rfl rfl rfl rfl rfl (by decide +kernel) rfl rfl (Nat.le_of_ble_eq_true rfl) ⟨Nat.zero_le _, Nat.zero_le _⟩ dX8_copy_116 (fun H locs hP hD hS => ?_)
                    obtain rfl := Option.some.inj h
                    exact hret _ _ _ _ _ hP hD hS dX8_copy_119 rfl rfl
                  · have h := br_neg c21 h
                    refine lv_iload hx hb dX8_copy_96 (lv_at hl 4 rfl) ?_
                    refine lv_i2l hx hb dX8_copy_98 rfl ?_
                    refine lv_iload hx hb dX8_copy_99 (lv_at hl 5 rfl) ?_
                    refine lv_i2l hx hb dX8_copy_101 rfl ?_
                    refine lv_ladd hx hb dX8_copy_102 ?_
                    refine lv_aload_n hx hb dX8_copy_103 rfl (lv_at hl 0 rfl) ?_
                    refine va_get (D := D) (ci := 7) (v := .ref aM_sizeOf) (C := RX8) (T := TX8) (N := 43) hx hb hts in_X8 hown hK hP 0 rfl rfl 40 (by decide) q2 (fun _ h9 => h9) rfl dX8_copy_104 ?_
                    refine lv_iload_n hx hb dX8_copy_107 rfl (lv_at hl 3 rfl) ?_
                    obtain ⟨g23, h⟩ := gd_some h
                    refine va_iald hx hb hK hP 3 0 rfl rfl g23 dX8_copy_108 ?_
                    refine lv_i2l hx hb dX8_copy_109 rfl ?_
                    refine W.lcmp hx hb dX8_copy_110 ?_
                    refine lv_if_le (tgt := 120) hx hb dX8_copy_111 (by decide) (fun c24 => ?_) (fun c24 => ?_)
                    · have h := br_pos c24 h
                      refine lv_iconst (v := 0) hx hb dX8_copy_120 (by decide) ?_
                      refine lv_istore (lv' := [(6, .int (0 : Int32)), (0, .ref aM), (1, .int x1), (2, .int x2), (3, .int x3), (4, .int x4), (5, .int x5)]) hx hb dX8_copy_121 hl (by decide) rfl (fun ls hl => ?_)
                      have lp123 : ∀ (k123 : Nat) (y6 : Int32) (cM_found : Nat → Int32) (cM_passing : Nat → Int32) (cM_number : Nat → Int32) (H : Heap) (locs : List Loc) (ls : Array Slot), va_P D vwCl (w_X8_copy cyI cyJ cyZ cyB cyO aM aM_found aM_bitsOf aM_sizeOf aM_passing aM_number aM_d aM_e aM_f aM_kept aM_tape aM_came aM_got aM_held aM_off aM_comesUp aM_comesDown aM_path aM_gets aM_gotNow vM_isKept vM_taped vM_leaked vM_keptAll vM_offAll vM_up vM_down vM_sharesUp vM_sharesDown vM_onUp vM_onDown vM_great vM_triedOff vM_triedLeaked vM_triedKept vM_fitting vM_firstSet vM_inAll vM_inAny vM_at vM_sort vM_from vM_value vM_fault cM_found cM_bitsOf cM_sizeOf cM_passing cM_number) H → va_D A (w_X8_copy cyI cyJ cyZ cyB cyO aM aM_found aM_bitsOf aM_sizeOf aM_passing aM_number aM_d aM_e aM_f aM_kept aM_tape aM_came aM_got aM_held aM_off aM_comesUp aM_comesDown aM_path aM_gets aM_gotNow vM_isKept vM_taped vM_leaked vM_keptAll vM_offAll vM_up vM_down vM_sharesUp vM_sharesDown vM_onUp vM_onDown vM_great vM_triedOff vM_triedLeaked vM_triedKept vM_fitting vM_firstSet vM_inAll vM_inAny vM_at vM_sort vM_from vM_value vM_fault cM_found cM_bitsOf cM_sizeOf cM_passing cM_number) → va_S A s.heap H locs → lv_has ls 7 [(6, .int y6), (0, .ref aM), (1, .int x1), (2, .int x2), (3, .int x3), (4, .int x4), (5, .int x5)] → (f_X8_copy_L123 x1 x2 x3 x4 x5 cM_bitsOf cM_sizeOf k123) (y6, cM_found, cM_passing, cM_number) = some out → W p l e ({ frames := 2, cells := 0, slots := 0, locals := 45 } : Room) s m args below meth c H locs 0 0 Q (F0 m 123 ls []) := by
                        intro k123
                        induction k123 with
                        | zero => intro y6 cM_found cM_passing cM_number H locs ls hP hD hS hl h; cases h
                        | succ k123 ih123 =>
                          intro y6 cM_found cM_passing cM_number H locs ls hP hD hS hl h
                          have h : f_X8_copy_L123_b x1 x2 x3 x4 x5 cM_bitsOf cM_sizeOf (f_X8_copy_L123 x1 x2 x3 x4 x5 cM_bitsOf cM_sizeOf k123) y6 cM_found cM_passing cM_number = some out := h
                          unfold f_X8_copy_L123_b at h
                          refine lv_iload hx hb dX8_copy_123 (lv_at hl 0 rfl) ?_
                          refine lv_iload hx hb dX8_copy_125 (lv_at hl 6 rfl) ?_
                          refine lv_icmp_ge (tgt := 157) hx hb dX8_copy_127 (by decide) (fun c25 => ?_) (fun c25 => ?_)
                          · have h := br_pos c25 h
                            refine lv_iconst (v := 0) hx hb dX8_copy_157 (by decide) ?_
                            refine lv_istore (lv' := [(6, .int (0 : Int32)), (0, .ref aM), (1, .int x1), (2, .int x2), (3, .int x3), (4, .int x4), (5, .int x5)]) hx hb dX8_copy_158 hl (by decide) rfl (fun ls hl => ?_)
                            have lp160 : ∀ (k160 : Nat) (y6 : Int32) (cM_found : Nat → Int32) (cM_passing : Nat → Int32) (cM_number : Nat → Int32) (H : Heap) (locs : List Loc) (ls : Array Slot), va_P D vwCl (w_X8_copy cyI cyJ cyZ cyB cyO aM aM_found aM_bitsOf aM_sizeOf aM_passing aM_number aM_d aM_e aM_f aM_kept aM_tape aM_came aM_got aM_held aM_off aM_comesUp aM_comesDown aM_path aM_gets aM_gotNow vM_isKept vM_taped vM_leaked vM_keptAll vM_offAll vM_up vM_down vM_sharesUp vM_sharesDown vM_onUp vM_onDown vM_great vM_triedOff vM_triedLeaked vM_triedKept vM_fitting vM_firstSet vM_inAll vM_inAny vM_at vM_sort vM_from vM_value vM_fault cM_found cM_bitsOf cM_sizeOf cM_passing cM_number) H → va_D A (w_X8_copy cyI cyJ cyZ cyB cyO aM aM_found aM_bitsOf aM_sizeOf aM_passing aM_number aM_d aM_e aM_f aM_kept aM_tape aM_came aM_got aM_held aM_off aM_comesUp aM_comesDown aM_path aM_gets aM_gotNow vM_isKept vM_taped vM_leaked vM_keptAll vM_offAll vM_up vM_down vM_sharesUp vM_sharesDown vM_onUp vM_onDown vM_great vM_triedOff vM_triedLeaked vM_triedKept vM_fitting vM_firstSet vM_inAll vM_inAny vM_at vM_sort vM_from vM_value vM_fault cM_found cM_bitsOf cM_sizeOf cM_passing cM_number) → va_S A s.heap H locs → lv_has ls 7 [(6, .int y6), (0, .ref aM), (3, .int x3), (4, .int x4), (5, .int x5)] → (f_X8_copy_L160 x1 x2 x3 x4 x5 cM_bitsOf cM_sizeOf k160) (y6, cM_found, cM_passing, cM_number) = some out → W p l e ({ frames := 2, cells := 0, slots := 0, locals := 45 } : Room) s m args below meth c H locs 0 0 Q (F0 m 160 ls []) := by
                              intro k160
                              induction k160 with
                              | zero => intro y6 cM_found cM_passing cM_number H locs ls hP hD hS hl h; cases h
                              | succ k160 ih160 =>
                                intro y6 cM_found cM_passing cM_number H locs ls hP hD hS hl h
                                have h : f_X8_copy_L160_b x1 x2 x3 x4 x5 cM_bitsOf cM_sizeOf (f_X8_copy_L160 x1 x2 x3 x4 x5 cM_bitsOf cM_sizeOf k160) y6 cM_found cM_passing cM_number = some out := h
                                unfold f_X8_copy_L160_b at h
                                refine lv_iload hx hb dX8_copy_160 (lv_at hl 0 rfl) ?_
                                refine lv_iload hx hb dX8_copy_162 (lv_at hl 4 rfl) ?_
                                refine lv_icmp_ge (tgt := 195) hx hb dX8_copy_164 (by decide) (fun c26 => ?_) (fun c26 => ?_)
                                · have h := br_pos c26 h
                                  refine lv_iload hx hb dX8_copy_195 (lv_at hl 4 rfl) ?_
                                  obtain rfl := Option.some.inj h
                                  exact hret _ _ _ _ _ hP hD hS dX8_copy_197 rfl rfl
                                · have h := br_neg c26 h
                                  refine lv_aload_n hx hb dX8_copy_167 rfl (lv_at hl 1 rfl) ?_
                                  refine va_get (D := D) (ci := 7) (v := .ref aM_number) (C := RX8) (T := TX8) (N := 43) hx hb hts in_X8 hown hK hP 0 rfl rfl 41 (by decide) q4 (fun _ h9 => h9) rfl dX8_copy_168 ?_
                                  refine lv_bipush (v := 40) hx hb dX8_copy_171 (by decide) ?_
                                  refine lv_iload_n hx hb dX8_copy_173 rfl (lv_at hl 2 rfl) ?_
                                  refine lv_imul hx hb dX8_copy_174 ?_
                                  refine lv_iload hx hb dX8_copy_175 (lv_at hl 3 rfl) ?_
                                  refine lv_iadd hx hb dX8_copy_177 ?_
                                  refine lv_iload hx hb dX8_copy_178 (lv_at hl 0 rfl) ?_
                                  refine lv_iadd hx hb dX8_copy_180 ?_
                                  refine lv_aload_n hx hb dX8_copy_181 rfl (lv_at hl 1 rfl) ?_
                                  refine va_get (D := D) (ci := 7) (v := .ref aM_passing) (C := RX8) (T := TX8) (N := 43) hx hb hts in_X8 hown hK hP 0 rfl rfl 42 (by decide) q3 (fun _ h9 => h9) rfl dX8_copy_182 ?_
                                  refine lv_iload hx hb dX8_copy_185 (lv_at hl 0 rfl) ?_
                                  obtain ⟨g27, h⟩ := gd_some h
                                  refine va_iald hx hb hK hP 4 0 rfl rfl g27 dX8_copy_187 ?_
                                  obtain ⟨g28, h⟩ := gd_some h
                                  refine va_iast hx hb hK hP hD hS 5 0 rfl rfl g28 dX8_copy_188 (fun H locs hP hD hS => ?_)
                                  have hP : va_P D vwCl (w_X8_copy cyI cyJ cyZ cyB cyO aM aM_found aM_bitsOf aM_sizeOf aM_passing aM_number aM_d aM_e aM_f aM_kept aM_tape aM_came aM_got aM_held aM_off aM_comesUp aM_comesDown aM_path aM_gets aM_gotNow vM_isKept vM_taped vM_leaked vM_keptAll vM_offAll vM_up vM_down vM_sharesUp vM_sharesDown vM_onUp vM_onDown vM_great vM_triedOff vM_triedLeaked vM_triedKept vM_fitting vM_firstSet vM_inAll vM_inAny vM_at vM_sort vM_from vM_value vM_fault cM_found cM_bitsOf cM_sizeOf cM_passing (upd cM_number ((((40 : Int32) * x3) + x4) + y6).toNatClampNeg (cM_passing y6.toNatClampNeg))) H := hP
                                  have hD : va_D A (w_X8_copy cyI cyJ cyZ cyB cyO aM aM_found aM_bitsOf aM_sizeOf aM_passing aM_number aM_d aM_e aM_f aM_kept aM_tape aM_came aM_got aM_held aM_off aM_comesUp aM_comesDown aM_path aM_gets aM_gotNow vM_isKept vM_taped vM_leaked vM_keptAll vM_offAll vM_up vM_down vM_sharesUp vM_sharesDown vM_onUp vM_onDown vM_great vM_triedOff vM_triedLeaked vM_triedKept vM_fitting vM_firstSet vM_inAll vM_inAny vM_at vM_sort vM_from vM_value vM_fault cM_found cM_bitsOf cM_sizeOf cM_passing (upd cM_number ((((40 : Int32) * x3) + x4) + y6).toNatClampNeg (cM_passing y6.toNatClampNeg))) := hD
                                  refine lv_iinc (v := y6 + 1) (lv' := [(6, .int (y6 + 1)), (0, .ref aM), (3, .int x3), (4, .int x4), (5, .int x5)]) hx hb dX8_copy_189 hl (k := 0) rfl rfl (by decide) rfl (fun ls hl => ?_)
                                  refine lv_goto (tgt := 160) hx hb dX8_copy_192 (by decide) ?_
                                  exact ih160 (y6 + 1) cM_found cM_passing (upd cM_number ((((40 : Int32) * x3) + x4) + y6).toNatClampNeg (cM_passing y6.toNatClampNeg)) _ _ _ hP hD hS (lv_sub hl [0, 1, 2, 3, 4] rfl) h
                            exact lp160 FU (0 : Int32) cM_found cM_passing cM_number _ _ _ hP hD hS (lv_sub hl [0, 1, 4, 5, 6] rfl) h
                          · have h := br_neg c25 h
                            refine lv_aload_n hx hb dX8_copy_130 rfl (lv_at hl 1 rfl) ?_
                            refine va_get (D := D) (ci := 7) (v := .ref aM_passing) (C := RX8) (T := TX8) (N := 43) hx hb hts in_X8 hown hK hP 0 rfl rfl 42 (by decide) q3 (fun _ h9 => h9) rfl dX8_copy_131 ?_
                            refine lv_iload hx hb dX8_copy_134 (lv_at hl 0 rfl) ?_
                            refine lv_aload_n hx hb dX8_copy_136 rfl (lv_at hl 1 rfl) ?_
                            refine va_get (D := D) (ci := 7) (v := .ref aM_number) (C := RX8) (T := TX8) (N := 43) hx hb hts in_X8 hown hK hP 0 rfl rfl 41 (by decide) q4 (fun _ h9 => h9) rfl dX8_copy_137 ?_
                            refine lv_bipush (v := 40) hx hb dX8_copy_140 (by decide) ?_
                            refine lv_iload_n hx hb dX8_copy_142 rfl (lv_at hl 2 rfl) ?_
                            refine lv_imul hx hb dX8_copy_143 ?_
                            refine lv_iload_n hx hb dX8_copy_144 rfl (lv_at hl 3 rfl) ?_
                            refine lv_iadd hx hb dX8_copy_145 ?_
                            refine lv_iload hx hb dX8_copy_146 (lv_at hl 0 rfl) ?_
                            refine lv_iadd hx hb dX8_copy_148 ?_
                            obtain ⟨g29, h⟩ := gd_some h
                            refine va_iald hx hb hK hP 5 0 rfl rfl g29 dX8_copy_149 ?_
                            obtain ⟨g30, h⟩ := gd_some h
                            refine va_iast hx hb hK hP hD hS 4 0 rfl rfl g30 dX8_copy_150 (fun H locs hP hD hS => ?_)
                            have hP : va_P D vwCl (w_X8_copy cyI cyJ cyZ cyB cyO aM aM_found aM_bitsOf aM_sizeOf aM_passing aM_number aM_d aM_e aM_f aM_kept aM_tape aM_came aM_got aM_held aM_off aM_comesUp aM_comesDown aM_path aM_gets aM_gotNow vM_isKept vM_taped vM_leaked vM_keptAll vM_offAll vM_up vM_down vM_sharesUp vM_sharesDown vM_onUp vM_onDown vM_great vM_triedOff vM_triedLeaked vM_triedKept vM_fitting vM_firstSet vM_inAll vM_inAny vM_at vM_sort vM_from vM_value vM_fault cM_found cM_bitsOf cM_sizeOf (upd cM_passing y6.toNatClampNeg (cM_number ((((40 : Int32) * x1) + x2) + y6).toNatClampNeg)) cM_number) H := hP
                            have hD : va_D A (w_X8_copy cyI cyJ cyZ cyB cyO aM aM_found aM_bitsOf aM_sizeOf aM_passing aM_number aM_d aM_e aM_f aM_kept aM_tape aM_came aM_got aM_held aM_off aM_comesUp aM_comesDown aM_path aM_gets aM_gotNow vM_isKept vM_taped vM_leaked vM_keptAll vM_offAll vM_up vM_down vM_sharesUp vM_sharesDown vM_onUp vM_onDown vM_great vM_triedOff vM_triedLeaked vM_triedKept vM_fitting vM_firstSet vM_inAll vM_inAny vM_at vM_sort vM_from vM_value vM_fault cM_found cM_bitsOf cM_sizeOf (upd cM_passing y6.toNatClampNeg (cM_number ((((40 : Int32) * x1) + x2) + y6).toNatClampNeg)) cM_number) := hD
                            refine lv_iinc (v := y6 + 1) (lv' := [(6, .int (y6 + 1)), (0, .ref aM), (1, .int x1), (2, .int x2), (3, .int x3), (4, .int x4), (5, .int x5)]) hx hb dX8_copy_151 hl (k := 0) rfl rfl (by decide) rfl (fun ls hl => ?_)
                            refine lv_goto (tgt := 123) hx hb dX8_copy_154 (by decide) ?_
                            exact ih123 (y6 + 1) cM_found (upd cM_passing y6.toNatClampNeg (cM_number ((((40 : Int32) * x1) + x2) + y6).toNatClampNeg)) cM_number _ _ _ hP hD hS (lv_sub hl [0, 1, 2, 3, 4, 5, 6] rfl) h
                      exact lp123 FU (0 : Int32) cM_found cM_passing cM_number _ _ _ hP hD hS (lv_sub hl [0, 1, 2, 3, 4, 5, 6] rfl) h
                    · have h := br_neg c24 h
                      refine lv_aload_n hx hb dX8_copy_114 rfl (lv_at hl 0 rfl) ?_
                      refine lv_iconst (v := 0) hx hb dX8_copy_115 (by decide) ?_
                      obtain ⟨u31, hu31, h⟩ := bd_some h
                      refine cl_Vi (rest := []) F hK hP hD hS hA hl (t_X8_finds l D cyI cyJ cyZ cyB cyO aM aM_found aM_d aM_e aM_f aM_kept aM_tape aM_came aM_got aM_held aM_off aM_comesUp aM_comesDown aM_path aM_gets aM_gotNow aM_bitsOf aM_sizeOf aM_number aM_passing vM_isKept vM_taped vM_leaked vM_keptAll vM_offAll vM_up vM_down vM_sharesUp vM_sharesDown vM_onUp vM_onDown vM_great vM_triedOff vM_triedLeaked vM_triedKept vM_fitting vM_firstSet vM_inAll vM_inAny vM_at vM_sort vM_from vM_value vM_fault cM_found (0 : Int32) u31 hu31) (cwV 1 hts gX8_copy_X8_finds rfl rfl rfl (by decide +kernel) ⟨Nat.le_of_ble_eq_true rfl, Nat.le_of_ble_eq_true rfl⟩) 0 [0, 1] [1, 2, 0, 0, 0, 0] [] (w_X8_copy cyI cyJ cyZ cyB cyO aM aM_found aM_bitsOf aM_sizeOf aM_passing aM_number aM_d aM_e aM_f aM_kept aM_tape aM_came aM_got aM_held aM_off aM_comesUp aM_comesDown aM_path aM_gets aM_gotNow vM_isKept vM_taped vM_leaked vM_keptAll vM_offAll vM_up vM_down vM_sharesUp vM_sharesDown vM_onUp vM_onDown vM_great vM_triedOff vM_triedLeaked vM_triedKept vM_fitting vM_firstSet vM_inAll vM_inAny vM_at vM_sort vM_from vM_value vM_fault u31.2 cM_bitsOf cM_sizeOf cM_passing cM_number) rfl rfl rfl rfl rfl (by decide +kernel) rfl rfl (Nat.le_of_ble_eq_true rfl) ⟨Nat.zero_le _, Nat.zero_le _⟩ dX8_copy_116 (fun H locs hP hD hS => ?_)
                      obtain rfl := Option.some.inj h
                      exact hret _ _ _ _ _ hP hD hS dX8_copy_119 rfl rfl
          · have h := br_neg c13 h
            refine lv_aload_n hx hb dX8_copy_59 rfl (lv_at hl 0 rfl) ?_
            refine lv_iconst (v := 2) hx hb dX8_copy_60 (by decide) ?_
            obtain ⟨u32, hu32, h⟩ := bd_some h
            refine cl_Vi (rest := []) F hK hP hD hS hA hl (t_X8_finds l D cyI cyJ cyZ cyB cyO aM aM_found aM_d aM_e aM_f aM_kept aM_tape aM_came aM_got aM_held aM_off aM_comesUp aM_comesDown aM_path aM_gets aM_gotNow aM_bitsOf aM_sizeOf aM_number aM_passing vM_isKept vM_taped vM_leaked vM_keptAll vM_offAll vM_up vM_down vM_sharesUp vM_sharesDown vM_onUp vM_onDown vM_great vM_triedOff vM_triedLeaked vM_triedKept vM_fitting vM_firstSet vM_inAll vM_inAny vM_at vM_sort vM_from vM_value vM_fault cM_found (2 : Int32) u32 hu32) (cwV 1 hts gX8_copy_X8_finds rfl rfl rfl (by decide +kernel) ⟨Nat.le_of_ble_eq_true rfl, Nat.le_of_ble_eq_true rfl⟩) 0 [0, 1] [1, 2, 0, 0, 0, 0] [] (w_X8_copy cyI cyJ cyZ cyB cyO aM aM_found aM_bitsOf aM_sizeOf aM_passing aM_number aM_d aM_e aM_f aM_kept aM_tape aM_came aM_got aM_held aM_off aM_comesUp aM_comesDown aM_path aM_gets aM_gotNow vM_isKept vM_taped vM_leaked vM_keptAll vM_offAll vM_up vM_down vM_sharesUp vM_sharesDown vM_onUp vM_onDown vM_great vM_triedOff vM_triedLeaked vM_triedKept vM_fitting vM_firstSet vM_inAll vM_inAny vM_at vM_sort vM_from vM_value vM_fault u32.2 cM_bitsOf cM_sizeOf cM_passing cM_number) rfl rfl rfl rfl rfl (by decide +kernel) rfl rfl (Nat.le_of_ble_eq_true rfl) ⟨Nat.zero_le _, Nat.zero_le _⟩ dX8_copy_61 (fun H locs hP hD hS => ?_)
            obtain rfl := Option.some.inj h
            exact hret _ _ _ _ _ hP hD hS dX8_copy_64 rfl rfl
        · have h := br_pos c10 h
          refine lv_aload_n hx hb dX8_copy_38 rfl (lv_at hl 0 rfl) ?_
          refine lv_iconst (v := 5) hx hb dX8_copy_39 (by decide) ?_
          obtain ⟨u33, hu33, h⟩ := bd_some h
          refine cl_Vi (rest := []) F hK hP hD hS hA hl (t_X8_finds l D cyI cyJ cyZ cyB cyO aM aM_found aM_d aM_e aM_f aM_kept aM_tape aM_came aM_got aM_held aM_off aM_comesUp aM_comesDown aM_path aM_gets aM_gotNow aM_bitsOf aM_sizeOf aM_number aM_passing vM_isKept vM_taped vM_leaked vM_keptAll vM_offAll vM_up vM_down vM_sharesUp vM_sharesDown vM_onUp vM_onDown vM_great vM_triedOff vM_triedLeaked vM_triedKept vM_fitting vM_firstSet vM_inAll vM_inAny vM_at vM_sort vM_from vM_value vM_fault cM_found (5 : Int32) u33 hu33) (cwV 1 hts gX8_copy_X8_finds rfl rfl rfl (by decide +kernel) ⟨Nat.le_of_ble_eq_true rfl, Nat.le_of_ble_eq_true rfl⟩) 0 [0, 1] [1, 2, 0, 0, 0, 0] [] (w_X8_copy cyI cyJ cyZ cyB cyO aM aM_found aM_bitsOf aM_sizeOf aM_passing aM_number aM_d aM_e aM_f aM_kept aM_tape aM_came aM_got aM_held aM_off aM_comesUp aM_comesDown aM_path aM_gets aM_gotNow vM_isKept vM_taped vM_leaked vM_keptAll vM_offAll vM_up vM_down vM_sharesUp vM_sharesDown vM_onUp vM_onDown vM_great vM_triedOff vM_triedLeaked vM_triedKept vM_fitting vM_firstSet vM_inAll vM_inAny vM_at vM_sort vM_from vM_value vM_fault u33.2 cM_bitsOf cM_sizeOf cM_passing cM_number) rfl rfl rfl rfl rfl (by decide +kernel) rfl rfl (Nat.le_of_ble_eq_true rfl) ⟨Nat.zero_le _, Nat.zero_le _⟩ dX8_copy_40 (fun H locs hP hD hS => ?_)
          obtain rfl := Option.some.inj h
          exact hret _ _ _ _ _ hP hD hS dX8_copy_43 rfl rfl
    · have h := br_pos c5 h
      refine lv_aload_n hx hb dX8_copy_14 rfl (lv_at hl 0 rfl) ?_
      refine lv_iconst (v := 0) hx hb dX8_copy_15 (by decide) ?_
      obtain ⟨u34, hu34, h⟩ := bd_some h
      refine cl_Vi (rest := []) F hK hP hD hS hA hl (t_X8_finds l D cyI cyJ cyZ cyB cyO aM aM_found aM_d aM_e aM_f aM_kept aM_tape aM_came aM_got aM_held aM_off aM_comesUp aM_comesDown aM_path aM_gets aM_gotNow aM_bitsOf aM_sizeOf aM_number aM_passing vM_isKept vM_taped vM_leaked vM_keptAll vM_offAll vM_up vM_down vM_sharesUp vM_sharesDown vM_onUp vM_onDown vM_great vM_triedOff vM_triedLeaked vM_triedKept vM_fitting vM_firstSet vM_inAll vM_inAny vM_at vM_sort vM_from vM_value vM_fault cM_found (0 : Int32) u34 hu34) (cwV 1 hts gX8_copy_X8_finds rfl rfl rfl (by decide +kernel) ⟨Nat.le_of_ble_eq_true rfl, Nat.le_of_ble_eq_true rfl⟩) 0 [0, 1] [1, 2, 0, 0, 0, 0] [] (w_X8_copy cyI cyJ cyZ cyB cyO aM aM_found aM_bitsOf aM_sizeOf aM_passing aM_number aM_d aM_e aM_f aM_kept aM_tape aM_came aM_got aM_held aM_off aM_comesUp aM_comesDown aM_path aM_gets aM_gotNow vM_isKept vM_taped vM_leaked vM_keptAll vM_offAll vM_up vM_down vM_sharesUp vM_sharesDown vM_onUp vM_onDown vM_great vM_triedOff vM_triedLeaked vM_triedKept vM_fitting vM_firstSet vM_inAll vM_inAny vM_at vM_sort vM_from vM_value vM_fault u34.2 cM_bitsOf cM_sizeOf cM_passing cM_number) rfl rfl rfl rfl rfl (by decide +kernel) rfl rfl (Nat.le_of_ble_eq_true rfl) ⟨Nat.zero_le _, Nat.zero_le _⟩ dX8_copy_16 (fun H locs hP hD hS => ?_)
      obtain rfl := Option.some.inj h
      exact hret _ _ _ _ _ hP hD hS dX8_copy_19 rfl rfl
/-! ===== X8_load ===== -/
def w_X8_load (cyI cyJ cyZ cyB cyO : ClassId) (aM aM_bitsOf aM_sizeOf aM_d aM_number aM_found aM_e aM_f aM_kept aM_tape aM_came aM_got aM_held aM_off aM_comesUp aM_comesDown aM_path aM_gets aM_gotNow aM_passing : Nat) (vM_isKept : Int32) (vM_taped : Int32) (vM_leaked : Int32) (vM_keptAll : Int32) (vM_offAll : Int32) (vM_up : Int64) (vM_down : Int64) (vM_sharesUp : Int64) (vM_sharesDown : Int64) (vM_onUp : Int64) (vM_onDown : Int64) (vM_great : Int32) (vM_triedOff : Int32) (vM_triedLeaked : Int32) (vM_triedKept : Int32) (vM_fitting : Int32) (vM_firstSet : Int32) (vM_inAll : Int32) (vM_inAny : Int32) (vM_at : Int32) (vM_sort : Int32) (vM_from : Int32) (vM_value : Int64) (vM_fault : Int32) (cM_bitsOf : Nat → Int32) (cM_sizeOf : Nat → Int32) (cM_d : Nat → Int32) (cM_number : Nat → Int32) (cM_found : Nat → Int32) : va_W := [(aM, .inr (7, [.ref aM_d, .ref aM_e, .ref aM_f, .ref aM_kept, .int vM_isKept, .ref aM_found, .ref aM_tape, .int vM_taped, .ref aM_came, .ref aM_got, .ref aM_held, .ref aM_off, .int vM_leaked, .int vM_keptAll, .int vM_offAll, .ref aM_comesUp, .ref aM_comesDown, .long vM_up, .long vM_down, .long vM_sharesUp, .long vM_sharesDown, .long vM_onUp, .long vM_onDown, .int vM_great, .ref aM_path, .ref aM_gets, .int vM_triedOff, .int vM_triedLeaked, .int vM_triedKept, .ref aM_gotNow, .int vM_fitting, .int vM_firstSet, .int vM_inAll, .int vM_inAny, .int vM_at, .int vM_sort, .int vM_from, .long vM_value, .int vM_fault, .ref aM_bitsOf, .ref aM_sizeOf, .ref aM_number, .ref aM_passing])), (aM_bitsOf, .inl (cyI, 4, .inl cM_bitsOf)), (aM_sizeOf, .inl (cyI, 4, .inl cM_sizeOf)), (aM_d, .inl (cyI, 64, .inl cM_d)), (aM_number, .inl (cyI, 160, .inl cM_number)), (aM_found, .inl (cyI, 7, .inl cM_found))]
set_option maxHeartbeats 4000000 in
set_option maxRecDepth 100000 in
theorem t_X8_load (l : Launch) (D : va_G) (cyI cyJ cyZ cyB cyO : ClassId) (aM aM_bitsOf aM_sizeOf aM_d aM_number aM_found aM_e aM_f aM_kept aM_tape aM_came aM_got aM_held aM_off aM_comesUp aM_comesDown aM_path aM_gets aM_gotNow aM_passing : Nat) (vM_isKept : Int32) (vM_taped : Int32) (vM_leaked : Int32) (vM_keptAll : Int32) (vM_offAll : Int32) (vM_up : Int64) (vM_down : Int64) (vM_sharesUp : Int64) (vM_sharesDown : Int64) (vM_onUp : Int64) (vM_onDown : Int64) (vM_great : Int32) (vM_triedOff : Int32) (vM_triedLeaked : Int32) (vM_triedKept : Int32) (vM_fitting : Int32) (vM_firstSet : Int32) (vM_inAll : Int32) (vM_inAny : Int32) (vM_at : Int32) (vM_sort : Int32) (vM_from : Int32) (vM_value : Int64) (vM_fault : Int32) (cM_bitsOf : Nat → Int32) (cM_sizeOf : Nat → Int32) (cM_d : Nat → Int32) (cM_number : Nat → Int32) (cM_found : Nat → Int32) (x1 : Int32) (out : Int32 × (Nat → Int32) × (Nat → Int32)) (h : f_X8_load x1 cM_bitsOf cM_sizeOf cM_d cM_number cM_found = some out) : Mi l yX8_load wsX8_load ({ frames := 3, cells := 0, slots := 0, locals := 66 } : Room) D (tyA cyI cyJ cyZ cyB cyO) [.ref aM, .int x1] (w_X8_load cyI cyJ cyZ cyB cyO aM aM_bitsOf aM_sizeOf aM_d aM_number aM_found aM_e aM_f aM_kept aM_tape aM_came aM_got aM_held aM_off aM_comesUp aM_comesDown aM_path aM_gets aM_gotNow aM_passing vM_isKept vM_taped vM_leaked vM_keptAll vM_offAll vM_up vM_down vM_sharesUp vM_sharesDown vM_onUp vM_onDown vM_great vM_triedOff vM_triedLeaked vM_triedKept vM_fitting vM_firstSet vM_inAll vM_inAny vM_at vM_sort vM_from vM_value vM_fault cM_bitsOf cM_sizeOf cM_d cM_number cM_found) (w_X8_load cyI cyJ cyZ cyB cyO aM aM_bitsOf aM_sizeOf aM_d aM_number aM_found aM_e aM_f aM_kept aM_tape aM_came aM_got aM_held aM_off aM_comesUp aM_comesDown aM_path aM_gets aM_gotNow aM_passing vM_isKept vM_taped vM_leaked vM_keptAll vM_offAll vM_up vM_down vM_sharesUp vM_sharesDown vM_onUp vM_onDown vM_great vM_triedOff vM_triedLeaked vM_triedKept vM_fitting vM_firstSet vM_inAll vM_inAny vM_at vM_sort vM_from vM_value vM_fault cM_bitsOf cM_sizeOf out.2.1 cM_number out.2.2) out.1 := by
  refine Mi.mk (cc := cX8_load) (maxL := 4) (rt := .int) (own := RX8) (by decide) rfl rfl (Nat.le_of_ble_eq_true rfl) ?_
  intro p e s m args below meth c A Q F hK hP hD hA hret ls hl
  obtain ⟨hx, hb, hml, hown, hts⟩ := id F
  have hS : va_S A s.heap s.heap [] := va_S.rf
  have hl : lv_has ls 4 [(0, .ref aM), (1, .int x1)] := hl
  have in_X8 : ∀ w ∈ wsX80, w ∈ wsX8_load := by decide +kernel
  have q5 := hts (Cond.methodLink RX8 261 yX8_whyNone) (List.mem_of_getElem? (i := 5) rfl)
  have q1 := hts (Cond.fieldLink RX8 60 "ThirdFountainModel" "sizeOf" "[I") (List.mem_of_getElem? (i := 1) rfl)
  have q2 := hts (Cond.fieldLink RX8 7 "ThirdFountainModel" "d" "[I") (List.mem_of_getElem? (i := 2) rfl)
  have q3 := hts (Cond.fieldLink RX8 63 "ThirdFountainModel" "number" "[I") (List.mem_of_getElem? (i := 3) rfl)
  have q4 := hts (Cond.constantLong RX8 121 (9)) (List.mem_of_getElem? (i := 4) rfl)
  have q15 := hts (Cond.methodLink RX8 70 yX8_in) (List.mem_of_getElem? (i := 15) rfl)
  have q24 := hts (Cond.methodLink RX8 105 yX8_sets) (List.mem_of_getElem? (i := 24) rfl)
  have q18 := hts (Cond.methodLink RX8 115 yX8_finds) (List.mem_of_getElem? (i := 18) rfl)
  unfold f_X8_load at h
  refine lv_aload_n hx hb dX8_load_0 rfl (lv_at hl 0 rfl) ?_
  refine lv_iload_n hx hb dX8_load_1 rfl (lv_at hl 1 rfl) ?_
  obtain ⟨u1, hu1, h⟩ := bd_some h
  refine cl_Vi (rest := []) F hK hP hD hS hA hl (t_X8_whyNone l D cyI cyJ cyZ cyB cyO aM aM_bitsOf aM_d aM_e aM_f aM_kept aM_found aM_tape aM_came aM_got aM_held aM_off aM_comesUp aM_comesDown aM_path aM_gets aM_gotNow aM_sizeOf aM_number aM_passing vM_isKept vM_taped vM_leaked vM_keptAll vM_offAll vM_up vM_down vM_sharesUp vM_sharesDown vM_onUp vM_onDown vM_great vM_triedOff vM_triedLeaked vM_triedKept vM_fitting vM_firstSet vM_inAll vM_inAny vM_at vM_sort vM_from vM_value vM_fault cM_bitsOf x1 u1 hu1) (cwV 1 hts gX8_load_X8_whyNone rfl rfl rfl (by decide +kernel) ⟨Nat.le_of_ble_eq_true rfl, Nat.le_of_ble_eq_true rfl⟩) 0 [0, 1] [1, 2, 0, 0, 0, 0] [] (w_X8_load cyI cyJ cyZ cyB cyO aM aM_bitsOf aM_sizeOf aM_d aM_number aM_found aM_e aM_f aM_kept aM_tape aM_came aM_got aM_held aM_off aM_comesUp aM_comesDown aM_path aM_gets aM_gotNow aM_passing vM_isKept vM_taped vM_leaked vM_keptAll vM_offAll vM_up vM_down vM_sharesUp vM_sharesDown vM_onUp vM_onDown vM_great vM_triedOff vM_triedLeaked vM_triedKept vM_fitting vM_firstSet vM_inAll vM_inAny vM_at vM_sort vM_from vM_value vM_fault cM_bitsOf cM_sizeOf cM_d cM_number cM_found) rfl rfl rfl rfl rfl (by decide +kernel) rfl rfl (Nat.le_of_ble_eq_true rfl) ⟨Nat.zero_le _, Nat.zero_le _⟩ dX8_load_2 (fun H locs hP hD hS => ?_)
  refine lv_istore_n (lv' := [(2, .int u1), (0, .ref aM), (1, .int x1)]) hx hb dX8_load_5 rfl hl (by decide) rfl (fun ls hl => ?_)
  refine lv_iload_n hx hb dX8_load_6 rfl (lv_at hl 0 rfl) ?_
  refine lv_if_lt (tgt := 16) hx hb dX8_load_7 (by decide) (fun c2 => ?_) (fun c2 => ?_)
  · have h := br_pos c2 h
    refine lv_iconst (v := 0) hx hb dX8_load_16 (by decide) ?_
    refine lv_istore_n (lv' := [(3, .int (0 : Int32)), (2, .int u1), (0, .ref aM), (1, .int x1)]) hx hb dX8_load_17 rfl hl (by decide) rfl (fun ls hl => ?_)
    have lp18 : ∀ (k18 : Nat) (y3 : Int32) (cM_d : Nat → Int32) (cM_found : Nat → Int32) (H : Heap) (locs : List Loc) (ls : Array Slot), va_P D vwCl (w_X8_load cyI cyJ cyZ cyB cyO aM aM_bitsOf aM_sizeOf aM_d aM_number aM_found aM_e aM_f aM_kept aM_tape aM_came aM_got aM_held aM_off aM_comesUp aM_comesDown aM_path aM_gets aM_gotNow aM_passing vM_isKept vM_taped vM_leaked vM_keptAll vM_offAll vM_up vM_down vM_sharesUp vM_sharesDown vM_onUp vM_onDown vM_great vM_triedOff vM_triedLeaked vM_triedKept vM_fitting vM_firstSet vM_inAll vM_inAny vM_at vM_sort vM_from vM_value vM_fault cM_bitsOf cM_sizeOf cM_d cM_number cM_found) H → va_D A (w_X8_load cyI cyJ cyZ cyB cyO aM aM_bitsOf aM_sizeOf aM_d aM_number aM_found aM_e aM_f aM_kept aM_tape aM_came aM_got aM_held aM_off aM_comesUp aM_comesDown aM_path aM_gets aM_gotNow aM_passing vM_isKept vM_taped vM_leaked vM_keptAll vM_offAll vM_up vM_down vM_sharesUp vM_sharesDown vM_onUp vM_onDown vM_great vM_triedOff vM_triedLeaked vM_triedKept vM_fitting vM_firstSet vM_inAll vM_inAny vM_at vM_sort vM_from vM_value vM_fault cM_bitsOf cM_sizeOf cM_d cM_number cM_found) → va_S A s.heap H locs → lv_has ls 4 [(3, .int y3), (0, .ref aM), (1, .int x1)] → (f_X8_load_L18 x1 cM_bitsOf cM_sizeOf cM_number k18) (y3, cM_d, cM_found) = some out → W p l e ({ frames := 3, cells := 0, slots := 0, locals := 66 } : Room) s m args below meth c H locs 0 0 Q (F0 m 18 ls []) := by
      intro k18
      induction k18 with
      | zero => intro y3 cM_d cM_found H locs ls hP hD hS hl h; cases h
      | succ k18 ih18 =>
        intro y3 cM_d cM_found H locs ls hP hD hS hl h
        have h : f_X8_load_L18_b x1 cM_bitsOf cM_sizeOf cM_number (f_X8_load_L18 x1 cM_bitsOf cM_sizeOf cM_number k18) y3 cM_d cM_found = some out := h
        unfold f_X8_load_L18_b at h
        refine lv_iload_n hx hb dX8_load_18 rfl (lv_at hl 0 rfl) ?_
        refine lv_aload_n hx hb dX8_load_19 rfl (lv_at hl 1 rfl) ?_
        refine va_get (D := D) (ci := 7) (v := .ref aM_sizeOf) (C := RX8) (T := TX8) (N := 43) hx hb hts in_X8 hown hK hP 0 rfl rfl 40 (by decide) q1 (fun _ h9 => h9) rfl dX8_load_20 ?_
        refine lv_iload_n hx hb dX8_load_23 rfl (lv_at hl 2 rfl) ?_
        obtain ⟨g3, h⟩ := gd_some h
        refine va_iald hx hb hK hP 2 0 rfl rfl g3 dX8_load_24 ?_
        refine lv_icmp_ge (tgt := 83) hx hb dX8_load_25 (by decide) (fun c4 => ?_) (fun c4 => ?_)
        · have h := br_pos c4 h
          refine lv_iload_n hx hb dX8_load_83 rfl (lv_at hl 0 rfl) ?_
          obtain rfl := Option.some.inj h
          exact hret _ _ _ _ _ hP hD hS dX8_load_84 rfl rfl
        · have h := br_neg c4 h
          refine lv_iload_n hx hb dX8_load_28 rfl (lv_at hl 0 rfl) ?_
          refine lv_aload_n hx hb dX8_load_29 rfl (lv_at hl 1 rfl) ?_
          refine va_get (D := D) (ci := 7) (v := .ref aM_d) (C := RX8) (T := TX8) (N := 43) hx hb hts in_X8 hown hK hP 0 rfl rfl 0 (by decide) q2 (fun _ h9 => h9) rfl dX8_load_30 ?_
          refine lv_iconst (v := 0) hx hb dX8_load_33 (by decide) ?_
          refine va_iald hx hb hK hP 3 0 rfl rfl (by unfold vp_in; decide) dX8_load_34 ?_
          refine lv_icmp_ge (tgt := 83) hx hb dX8_load_35 (by decide) (fun c5 => ?_) (fun c5 => ?_)
          · have h := br_pos c5 h
            refine lv_iload_n hx hb dX8_load_83 rfl (lv_at hl 0 rfl) ?_
            obtain rfl := Option.some.inj h
            exact hret _ _ _ _ _ hP hD hS dX8_load_84 rfl rfl
          · have h := br_neg c5 h
            refine lv_aload_n hx hb dX8_load_38 rfl (lv_at hl 1 rfl) ?_
            refine va_get (D := D) (ci := 7) (v := .ref aM_number) (C := RX8) (T := TX8) (N := 43) hx hb hts in_X8 hown hK hP 0 rfl rfl 41 (by decide) q3 (fun _ h9 => h9) rfl dX8_load_39 ?_
            refine lv_bipush (v := 40) hx hb dX8_load_42 (by decide) ?_
            refine lv_iload_n hx hb dX8_load_44 rfl (lv_at hl 2 rfl) ?_
            refine lv_imul hx hb dX8_load_45 ?_
            refine lv_iload_n hx hb dX8_load_46 rfl (lv_at hl 0 rfl) ?_
            refine lv_iadd hx hb dX8_load_47 ?_
            obtain ⟨g6, h⟩ := gd_some h
            refine va_iald hx hb hK hP 4 0 rfl rfl g6 dX8_load_48 ?_
            refine lv_i2l hx hb dX8_load_49 rfl ?_
            refine lv_lconst (v := 1) hx hb dX8_load_50 (by decide) ?_
            refine lv_ldc2 (v := 9) hx hb hown q4 dX8_load_51 ?_
            obtain ⟨u7, hu7, h⟩ := bd_some h
            refine cl_Si (rest := []) F hK hP hD hS hA hl (t_X8_in l D cyI cyJ cyZ cyB cyO ((cM_number (((40 : Int32) * x1) + y3).toNatClampNeg).toInt64) (1 : Int64) (9 : Int64) u7 hu7) (va_cwS 3 hts gX8_load_X8_in rfl rfl rfl (by decide +kernel) ⟨Nat.le_of_ble_eq_true rfl, Nat.le_of_ble_eq_true rfl⟩) [] [0, 0, 0, 0, 0, 0] [] (w_X8_load cyI cyJ cyZ cyB cyO aM aM_bitsOf aM_sizeOf aM_d aM_number aM_found aM_e aM_f aM_kept aM_tape aM_came aM_got aM_held aM_off aM_comesUp aM_comesDown aM_path aM_gets aM_gotNow aM_passing vM_isKept vM_taped vM_leaked vM_keptAll vM_offAll vM_up vM_down vM_sharesUp vM_sharesDown vM_onUp vM_onDown vM_great vM_triedOff vM_triedLeaked vM_triedKept vM_fitting vM_firstSet vM_inAll vM_inAny vM_at vM_sort vM_from vM_value vM_fault cM_bitsOf cM_sizeOf cM_d cM_number cM_found) rfl rfl rfl (by decide +kernel) rfl rfl (Nat.le_of_ble_eq_true rfl) ⟨Nat.zero_le _, Nat.zero_le _⟩ dX8_load_54 (fun H locs hP hD hS => ?_)
            refine lv_if_eq (tgt := 83) hx hb dX8_load_57 (by decide) (fun c8 => ?_) (fun c8 => ?_)
            · have h := br_pos c8 h
              refine lv_iload_n hx hb dX8_load_83 rfl (lv_at hl 0 rfl) ?_
              obtain rfl := Option.some.inj h
              exact hret _ _ _ _ _ hP hD hS dX8_load_84 rfl rfl
            · have h := br_neg c8 h
              refine lv_aload_n hx hb dX8_load_60 rfl (lv_at hl 1 rfl) ?_
              refine lv_iload_n hx hb dX8_load_61 rfl (lv_at hl 0 rfl) ?_
              refine lv_iconst (v := 2) hx hb dX8_load_62 (by decide) ?_
              refine lv_aload_n hx hb dX8_load_63 rfl (lv_at hl 1 rfl) ?_
              refine va_get (D := D) (ci := 7) (v := .ref aM_number) (C := RX8) (T := TX8) (N := 43) hx hb hts in_X8 hown hK hP 0 rfl rfl 41 (by decide) q3 (fun _ h9 => h9) rfl dX8_load_64 ?_
              refine lv_bipush (v := 40) hx hb dX8_load_67 (by decide) ?_
              refine lv_iload_n hx hb dX8_load_69 rfl (lv_at hl 2 rfl) ?_
              refine lv_imul hx hb dX8_load_70 ?_
              refine lv_iload_n hx hb dX8_load_71 rfl (lv_at hl 0 rfl) ?_
              refine lv_iadd hx hb dX8_load_72 ?_
              obtain ⟨g9, h⟩ := gd_some h
              refine va_iald hx hb hK hP 4 0 rfl rfl g9 dX8_load_73 ?_
              obtain ⟨u10, hu10, h⟩ := bd_some h
              refine cl_Vv (rest := []) F hK hP hD hS hA hl (t_X8_sets l D cyI cyJ cyZ cyB cyO aM aM_d aM_e aM_f aM_kept aM_found aM_tape aM_came aM_got aM_held aM_off aM_comesUp aM_comesDown aM_path aM_gets aM_gotNow aM_bitsOf aM_sizeOf aM_number aM_passing vM_isKept vM_taped vM_leaked vM_keptAll vM_offAll vM_up vM_down vM_sharesUp vM_sharesDown vM_onUp vM_onDown vM_great vM_triedOff vM_triedLeaked vM_triedKept vM_fitting vM_firstSet vM_inAll vM_inAny vM_at vM_sort vM_from vM_value vM_fault cM_d y3 (2 : Int32) (cM_number (((40 : Int32) * x1) + y3).toNatClampNeg) u10 hu10) (cwV 3 hts gX8_load_X8_sets rfl rfl rfl (by decide +kernel) ⟨Nat.le_of_ble_eq_true rfl, Nat.le_of_ble_eq_true rfl⟩) 0 [0, 3] [1, 0, 0, 2, 0, 0] [] (w_X8_load cyI cyJ cyZ cyB cyO aM aM_bitsOf aM_sizeOf aM_d aM_number aM_found aM_e aM_f aM_kept aM_tape aM_came aM_got aM_held aM_off aM_comesUp aM_comesDown aM_path aM_gets aM_gotNow aM_passing vM_isKept vM_taped vM_leaked vM_keptAll vM_offAll vM_up vM_down vM_sharesUp vM_sharesDown vM_onUp vM_onDown vM_great vM_triedOff vM_triedLeaked vM_triedKept vM_fitting vM_firstSet vM_inAll vM_inAny vM_at vM_sort vM_from vM_value vM_fault cM_bitsOf cM_sizeOf u10 cM_number cM_found) rfl rfl rfl rfl rfl (by decide +kernel) rfl rfl (Nat.le_of_ble_eq_true rfl) ⟨Nat.zero_le _, Nat.zero_le _⟩ dX8_load_74 (fun H locs hP hD hS => ?_)
              refine lv_iinc (v := y3 + 1) (lv' := [(3, .int (y3 + 1)), (0, .ref aM), (1, .int x1)]) hx hb dX8_load_77 hl (k := 0) rfl rfl (by decide) rfl (fun ls hl => ?_)
              refine lv_goto (tgt := 18) hx hb dX8_load_80 (by decide) ?_
              exact ih18 (y3 + 1) u10 cM_found _ _ _ hP hD hS (lv_sub hl [0, 1, 2] rfl) h
    exact lp18 FU (0 : Int32) cM_d cM_found _ _ _ hP hD hS (lv_sub hl [0, 2, 3] rfl) h
  · have h := br_neg c2 h
    refine lv_aload_n hx hb dX8_load_10 rfl (lv_at hl 1 rfl) ?_
    refine lv_iload_n hx hb dX8_load_11 rfl (lv_at hl 0 rfl) ?_
    obtain ⟨u11, hu11, h⟩ := bd_some h
    refine cl_Vi (rest := []) F hK hP hD hS hA hl (t_X8_finds l D cyI cyJ cyZ cyB cyO aM aM_found aM_d aM_e aM_f aM_kept aM_tape aM_came aM_got aM_held aM_off aM_comesUp aM_comesDown aM_path aM_gets aM_gotNow aM_bitsOf aM_sizeOf aM_number aM_passing vM_isKept vM_taped vM_leaked vM_keptAll vM_offAll vM_up vM_down vM_sharesUp vM_sharesDown vM_onUp vM_onDown vM_great vM_triedOff vM_triedLeaked vM_triedKept vM_fitting vM_firstSet vM_inAll vM_inAny vM_at vM_sort vM_from vM_value vM_fault cM_found u1 u11 hu11) (cwV 1 hts gX8_load_X8_finds rfl rfl rfl (by decide +kernel) ⟨Nat.le_of_ble_eq_true rfl, Nat.le_of_ble_eq_true rfl⟩) 0 [0, 5] [1, 0, 0, 0, 0, 2] [] (w_X8_load cyI cyJ cyZ cyB cyO aM aM_bitsOf aM_sizeOf aM_d aM_number aM_found aM_e aM_f aM_kept aM_tape aM_came aM_got aM_held aM_off aM_comesUp aM_comesDown aM_path aM_gets aM_gotNow aM_passing vM_isKept vM_taped vM_leaked vM_keptAll vM_offAll vM_up vM_down vM_sharesUp vM_sharesDown vM_onUp vM_onDown vM_great vM_triedOff vM_triedLeaked vM_triedKept vM_fitting vM_firstSet vM_inAll vM_inAny vM_at vM_sort vM_from vM_value vM_fault cM_bitsOf cM_sizeOf cM_d cM_number u11.2) rfl rfl rfl rfl rfl (by decide +kernel) rfl rfl (Nat.le_of_ble_eq_true rfl) ⟨Nat.zero_le _, Nat.zero_le _⟩ dX8_load_12 (fun H locs hP hD hS => ?_)
    obtain rfl := Option.some.inj h
    exact hret _ _ _ _ _ hP hD hS dX8_load_15 rfl rfl
/-! ===== X8_judge ===== -/
def w_X8_judge (cyI cyJ cyZ cyB cyO : ClassId) (aM aM_bitsOf aM_d aM_f aM_sizeOf aM_came aM_got aM_held aM_off aM_number aM_found aM_e aM_kept aM_tape aM_comesUp aM_comesDown aM_path aM_gets aM_gotNow aM_passing : Nat) (vM_isKept : Int32) (vM_taped : Int32) (vM_leaked : Int32) (vM_keptAll : Int32) (vM_offAll : Int32) (vM_up : Int64) (vM_down : Int64) (vM_sharesUp : Int64) (vM_sharesDown : Int64) (vM_onUp : Int64) (vM_onDown : Int64) (vM_great : Int32) (vM_triedOff : Int32) (vM_triedLeaked : Int32) (vM_triedKept : Int32) (vM_fitting : Int32) (vM_firstSet : Int32) (vM_inAll : Int32) (vM_inAny : Int32) (vM_at : Int32) (vM_sort : Int32) (vM_from : Int32) (vM_value : Int64) (vM_fault : Int32) (cM_bitsOf : Nat → Int32) (cM_d : Nat → Int32) (cM_f : Nat → Int32) (cM_sizeOf : Nat → Int32) (cM_came : Nat → Int32) (cM_got : Nat → Int32) (cM_held : Nat → Int32) (cM_off : Nat → Int32) (cM_number : Nat → Int32) (cM_found : Nat → Int32) : va_W := [(aM, .inr (7, [.ref aM_d, .ref aM_e, .ref aM_f, .ref aM_kept, .int vM_isKept, .ref aM_found, .ref aM_tape, .int vM_taped, .ref aM_came, .ref aM_got, .ref aM_held, .ref aM_off, .int vM_leaked, .int vM_keptAll, .int vM_offAll, .ref aM_comesUp, .ref aM_comesDown, .long vM_up, .long vM_down, .long vM_sharesUp, .long vM_sharesDown, .long vM_onUp, .long vM_onDown, .int vM_great, .ref aM_path, .ref aM_gets, .int vM_triedOff, .int vM_triedLeaked, .int vM_triedKept, .ref aM_gotNow, .int vM_fitting, .int vM_firstSet, .int vM_inAll, .int vM_inAny, .int vM_at, .int vM_sort, .int vM_from, .long vM_value, .int vM_fault, .ref aM_bitsOf, .ref aM_sizeOf, .ref aM_number, .ref aM_passing])), (aM_bitsOf, .inl (cyI, 4, .inl cM_bitsOf)), (aM_d, .inl (cyI, 64, .inl cM_d)), (aM_f, .inl (cyI, 64, .inl cM_f)), (aM_sizeOf, .inl (cyI, 4, .inl cM_sizeOf)), (aM_came, .inl (cyI, 10, .inl cM_came)), (aM_got, .inl (cyI, 10, .inl cM_got)), (aM_held, .inl (cyI, 10, .inl cM_held)), (aM_off, .inl (cyI, 10, .inl cM_off)), (aM_number, .inl (cyI, 160, .inl cM_number)), (aM_found, .inl (cyI, 7, .inl cM_found))]
set_option maxHeartbeats 4000000 in
set_option maxRecDepth 100000 in
theorem t_X8_judge (l : Launch) (D : va_G) (cyI cyJ cyZ cyB cyO : ClassId) (aM aM_bitsOf aM_d aM_f aM_sizeOf aM_came aM_got aM_held aM_off aM_number aM_found aM_e aM_kept aM_tape aM_comesUp aM_comesDown aM_path aM_gets aM_gotNow aM_passing : Nat) (vM_isKept : Int32) (vM_taped : Int32) (vM_leaked : Int32) (vM_keptAll : Int32) (vM_offAll : Int32) (vM_up : Int64) (vM_down : Int64) (vM_sharesUp : Int64) (vM_sharesDown : Int64) (vM_onUp : Int64) (vM_onDown : Int64) (vM_great : Int32) (vM_triedOff : Int32) (vM_triedLeaked : Int32) (vM_triedKept : Int32) (vM_fitting : Int32) (vM_firstSet : Int32) (vM_inAll : Int32) (vM_inAny : Int32) (vM_at : Int32) (vM_sort : Int32) (vM_from : Int32) (vM_value : Int64) (vM_fault : Int32) (cM_bitsOf : Nat → Int32) (cM_d : Nat → Int32) (cM_f : Nat → Int32) (cM_sizeOf : Nat → Int32) (cM_came : Nat → Int32) (cM_got : Nat → Int32) (cM_held : Nat → Int32) (cM_off : Nat → Int32) (cM_number : Nat → Int32) (cM_found : Nat → Int32) (x1 : Int32) (x2 : Int32) (out : Int32 × Int32 × Int32 × Int32 × (Nat → Int32) × (Nat → Int32) × (Nat → Int32) × (Nat → Int32) × (Nat → Int32) × (Nat → Int32) × (Nat → Int32)) (h : f_X8_judge x1 x2 vM_leaked vM_keptAll vM_offAll cM_bitsOf cM_d cM_f cM_sizeOf cM_came cM_got cM_held cM_off cM_number cM_found = some out) : Mi l yX8_judge wsX8_judge ({ frames := 4, cells := 0, slots := 0, locals := 95 } : Room) D (tyA cyI cyJ cyZ cyB cyO) [.ref aM, .int x1, .int x2] (w_X8_judge cyI cyJ cyZ cyB cyO aM aM_bitsOf aM_d aM_f aM_sizeOf aM_came aM_got aM_held aM_off aM_number aM_found aM_e aM_kept aM_tape aM_comesUp aM_comesDown aM_path aM_gets aM_gotNow aM_passing vM_isKept vM_taped vM_leaked vM_keptAll vM_offAll vM_up vM_down vM_sharesUp vM_sharesDown vM_onUp vM_onDown vM_great vM_triedOff vM_triedLeaked vM_triedKept vM_fitting vM_firstSet vM_inAll vM_inAny vM_at vM_sort vM_from vM_value vM_fault cM_bitsOf cM_d cM_f cM_sizeOf cM_came cM_got cM_held cM_off cM_number cM_found) (w_X8_judge cyI cyJ cyZ cyB cyO aM aM_bitsOf aM_d aM_f aM_sizeOf aM_came aM_got aM_held aM_off aM_number aM_found aM_e aM_kept aM_tape aM_comesUp aM_comesDown aM_path aM_gets aM_gotNow aM_passing vM_isKept vM_taped out.2.1 out.2.2.1 out.2.2.2.1 vM_up vM_down vM_sharesUp vM_sharesDown vM_onUp vM_onDown vM_great vM_triedOff vM_triedLeaked vM_triedKept vM_fitting vM_firstSet vM_inAll vM_inAny vM_at vM_sort vM_from vM_value vM_fault cM_bitsOf out.2.2.2.2.1 out.2.2.2.2.2.1 cM_sizeOf out.2.2.2.2.2.2.1 out.2.2.2.2.2.2.2.1 out.2.2.2.2.2.2.2.2.1 out.2.2.2.2.2.2.2.2.2.1 cM_number out.2.2.2.2.2.2.2.2.2.2) out.1 := by
  refine Mi.mk (cc := cX8_judge) (maxL := 6) (rt := .int) (own := RX8) (by decide) rfl rfl (Nat.le_of_ble_eq_true rfl) ?_
  intro p e s m args below meth c A Q F hK hP hD hA hret ls hl
  obtain ⟨hx, hb, hml, hown, hts⟩ := id F
  have hS : va_S A s.heap s.heap [] := va_S.rf
  have hl : lv_has ls 6 [(0, .ref aM), (1, .int x1), (2, .int x2)] := hl
  have in_X8 : ∀ w ∈ wsX80, w ∈ wsX8_judge := by decide +kernel
  have q6 := hts (Cond.methodLink RX8 261 yX8_whyNone) (List.mem_of_getElem? (i := 6) rfl)
  have q2 := hts (Cond.fieldLink RX8 7 "ThirdFountainModel" "d" "[I") (List.mem_of_getElem? (i := 2) rfl)
  have q3 := hts (Cond.fieldLink RX8 16 "ThirdFountainModel" "f" "[I") (List.mem_of_getElem? (i := 3) rfl)
  have q33 := hts (Cond.methodLink RX8 189 yX8_copies) (List.mem_of_getElem? (i := 33) rfl)
  have q1 := hts (Cond.fieldLink RX8 60 "ThirdFountainModel" "sizeOf" "[I") (List.mem_of_getElem? (i := 1) rfl)
  have q36 := hts (Cond.methodLink RX8 201 yX8_anHour) (List.mem_of_getElem? (i := 36) rfl)
  have q4 := hts (Cond.fieldLink RX8 32 "ThirdFountainModel" "got" "[I") (List.mem_of_getElem? (i := 4) rfl)
  have q5 := hts (Cond.fieldLink RX8 63 "ThirdFountainModel" "number" "[I") (List.mem_of_getElem? (i := 5) rfl)
  have q27 := hts (Cond.methodLink RX8 115 yX8_finds) (List.mem_of_getElem? (i := 27) rfl)
  have q19 := hts (Cond.methodLink RX8 109 yX8_isBasin) (List.mem_of_getElem? (i := 19) rfl)
  have q23 := hts (Cond.methodLink RX8 206 yX8_isLate) (List.mem_of_getElem? (i := 23) rfl)
  unfold f_X8_judge at h
  refine lv_aload_n hx hb dX8_judge_0 rfl (lv_at hl 0 rfl) ?_
  refine lv_iload_n hx hb dX8_judge_1 rfl (lv_at hl 1 rfl) ?_
  obtain ⟨u1, hu1, h⟩ := bd_some h
  refine cl_Vi (rest := []) F hK hP hD hS hA hl (t_X8_whyNone l D cyI cyJ cyZ cyB cyO aM aM_bitsOf aM_d aM_e aM_f aM_kept aM_found aM_tape aM_came aM_got aM_held aM_off aM_comesUp aM_comesDown aM_path aM_gets aM_gotNow aM_sizeOf aM_number aM_passing vM_isKept vM_taped vM_leaked vM_keptAll vM_offAll vM_up vM_down vM_sharesUp vM_sharesDown vM_onUp vM_onDown vM_great vM_triedOff vM_triedLeaked vM_triedKept vM_fitting vM_firstSet vM_inAll vM_inAny vM_at vM_sort vM_from vM_value vM_fault cM_bitsOf x1 u1 hu1) (cwV 1 hts gX8_judge_X8_whyNone rfl rfl rfl (by decide +kernel) ⟨Nat.le_of_ble_eq_true rfl, Nat.le_of_ble_eq_true rfl⟩) 0 [0, 1] [1, 2, 0, 0, 0, 0, 0, 0, 0, 0, 0] [] (w_X8_judge cyI cyJ cyZ cyB cyO aM aM_bitsOf aM_d aM_f aM_sizeOf aM_came aM_got aM_held aM_off aM_number aM_found aM_e aM_kept aM_tape aM_comesUp aM_comesDown aM_path aM_gets aM_gotNow aM_passing vM_isKept vM_taped vM_leaked vM_keptAll vM_offAll vM_up vM_down vM_sharesUp vM_sharesDown vM_onUp vM_onDown vM_great vM_triedOff vM_triedLeaked vM_triedKept vM_fitting vM_firstSet vM_inAll vM_inAny vM_at vM_sort vM_from vM_value vM_fault cM_bitsOf cM_d cM_f cM_sizeOf cM_came cM_got cM_held cM_off cM_number cM_found) rfl rfl rfl rfl rfl (by decide +kernel) rfl rfl (Nat.le_of_ble_eq_true rfl) ⟨Nat.zero_le _, Nat.zero_le _⟩ dX8_judge_2 (fun H locs hP hD hS => ?_)
  refine lv_istore_n (lv' := [(3, .int u1), (0, .ref aM), (1, .int x1), (2, .int x2)]) hx hb dX8_judge_5 rfl hl (by decide) rfl (fun ls hl => ?_)
  refine lv_iload_n hx hb dX8_judge_6 rfl (lv_at hl 0 rfl) ?_
  have j41 : ∀ (y3 : Int32) (vM_leaked : Int32) (vM_keptAll : Int32) (vM_offAll : Int32) (cM_d : Nat → Int32) (cM_f : Nat → Int32) (cM_came : Nat → Int32) (cM_got : Nat → Int32) (cM_held : Nat → Int32) (cM_off : Nat → Int32) (cM_found : Nat → Int32) (H : Heap) (locs : List Loc) (ls : Array Slot), va_P D vwCl (w_X8_judge cyI cyJ cyZ cyB cyO aM aM_bitsOf aM_d aM_f aM_sizeOf aM_came aM_got aM_held aM_off aM_number aM_found aM_e aM_kept aM_tape aM_comesUp aM_comesDown aM_path aM_gets aM_gotNow aM_passing vM_isKept vM_taped vM_leaked vM_keptAll vM_offAll vM_up vM_down vM_sharesUp vM_sharesDown vM_onUp vM_onDown vM_great vM_triedOff vM_triedLeaked vM_triedKept vM_fitting vM_firstSet vM_inAll vM_inAny vM_at vM_sort vM_from vM_value vM_fault cM_bitsOf cM_d cM_f cM_sizeOf cM_came cM_got cM_held cM_off cM_number cM_found) H → va_D A (w_X8_judge cyI cyJ cyZ cyB cyO aM aM_bitsOf aM_d aM_f aM_sizeOf aM_came aM_got aM_held aM_off aM_number aM_found aM_e aM_kept aM_tape aM_comesUp aM_comesDown aM_path aM_gets aM_gotNow aM_passing vM_isKept vM_taped vM_leaked vM_keptAll vM_offAll vM_up vM_down vM_sharesUp vM_sharesDown vM_onUp vM_onDown vM_great vM_triedOff vM_triedLeaked vM_triedKept vM_fitting vM_firstSet vM_inAll vM_inAny vM_at vM_sort vM_from vM_value vM_fault cM_bitsOf cM_d cM_f cM_sizeOf cM_came cM_got cM_held cM_off cM_number cM_found) → va_S A s.heap H locs → lv_has ls 6 [(3, .int y3), (0, .ref aM), (1, .int x1), (2, .int x2)] → f_X8_judge_J41 x1 x2 cM_bitsOf cM_sizeOf cM_number y3 vM_leaked vM_keptAll vM_offAll cM_d cM_f cM_came cM_got cM_held cM_off cM_found = some out → W p l e ({ frames := 4, cells := 0, slots := 0, locals := 95 } : Room) s m args below meth c H locs 0 0 Q (F0 m 41 ls []) := by
    intro y3 vM_leaked vM_keptAll vM_offAll cM_d cM_f cM_came cM_got cM_held cM_off cM_found H locs ls hP hD hS hl h
    unfold f_X8_judge_J41 at h
    refine lv_iload_n hx hb dX8_judge_41 rfl (lv_at hl 0 rfl) ?_
    refine lv_if_lt (tgt := 51) hx hb dX8_judge_42 (by decide) (fun c2 => ?_) (fun c2 => ?_)
    · have h := br_pos c2 h
      refine lv_aload_n hx hb dX8_judge_51 rfl (lv_at hl 1 rfl) ?_
      refine va_get (D := D) (ci := 7) (v := .ref aM_d) (C := RX8) (T := TX8) (N := 43) hx hb hts in_X8 hown hK hP 0 rfl rfl 0 (by decide) q2 (fun _ h9 => h9) rfl dX8_judge_52 ?_
      refine lv_aload_n hx hb dX8_judge_55 rfl (lv_at hl 1 rfl) ?_
      refine va_get (D := D) (ci := 7) (v := .ref aM_f) (C := RX8) (T := TX8) (N := 43) hx hb hts in_X8 hown hK hP 0 rfl rfl 2 (by decide) q3 (fun _ h9 => h9) rfl dX8_judge_56 ?_
      obtain ⟨u3, hu3, h⟩ := bd_some h
      refine cl_Sv (rest := []) F hK hP hD hS hA hl (t_X8_copies l D cyI cyJ cyZ cyB cyO aM_d aM_f cM_d cM_f u3 hu3) (va_cwS 2 hts gX8_judge_X8_copies rfl rfl rfl (by decide +kernel) ⟨Nat.le_of_ble_eq_true rfl, Nat.le_of_ble_eq_true rfl⟩) [2, 3] [0, 0, 1, 2, 0, 0, 0, 0, 0, 0, 0] [] (w_X8_judge cyI cyJ cyZ cyB cyO aM aM_bitsOf aM_d aM_f aM_sizeOf aM_came aM_got aM_held aM_off aM_number aM_found aM_e aM_kept aM_tape aM_comesUp aM_comesDown aM_path aM_gets aM_gotNow aM_passing vM_isKept vM_taped vM_leaked vM_keptAll vM_offAll vM_up vM_down vM_sharesUp vM_sharesDown vM_onUp vM_onDown vM_great vM_triedOff vM_triedLeaked vM_triedKept vM_fitting vM_firstSet vM_inAll vM_inAny vM_at vM_sort vM_from vM_value vM_fault cM_bitsOf cM_d u3 cM_sizeOf cM_came cM_got cM_held cM_off cM_number cM_found) rfl rfl rfl (by decide +kernel) rfl rfl (Nat.le_of_ble_eq_true rfl) ⟨Nat.zero_le _, Nat.zero_le _⟩ dX8_judge_59 (fun H locs hP hD hS => ?_)
      refine lv_iconst (v := 0) hx hb dX8_judge_62 (by decide) ?_
      refine lv_istore (lv' := [(4, .int (0 : Int32)), (3, .int y3), (0, .ref aM), (1, .int x1), (2, .int x2)]) hx hb dX8_judge_63 hl (by decide) rfl (fun ls hl => ?_)
      refine lv_iconst (v := 0) hx hb dX8_judge_65 (by decide) ?_
      refine lv_istore (lv' := [(5, .int (0 : Int32)), (4, .int (0 : Int32)), (3, .int y3), (0, .ref aM), (1, .int x1), (2, .int x2)]) hx hb dX8_judge_66 hl (by decide) rfl (fun ls hl => ?_)
      have lp68 : ∀ (k68 : Nat) (y4 : Int32) (y5 : Int32) (vM_leaked : Int32) (vM_keptAll : Int32) (vM_offAll : Int32) (cM_d : Nat → Int32) (cM_f : Nat → Int32) (cM_came : Nat → Int32) (cM_got : Nat → Int32) (cM_held : Nat → Int32) (cM_off : Nat → Int32) (cM_found : Nat → Int32) (H : Heap) (locs : List Loc) (ls : Array Slot), va_P D vwCl (w_X8_judge cyI cyJ cyZ cyB cyO aM aM_bitsOf aM_d aM_f aM_sizeOf aM_came aM_got aM_held aM_off aM_number aM_found aM_e aM_kept aM_tape aM_comesUp aM_comesDown aM_path aM_gets aM_gotNow aM_passing vM_isKept vM_taped vM_leaked vM_keptAll vM_offAll vM_up vM_down vM_sharesUp vM_sharesDown vM_onUp vM_onDown vM_great vM_triedOff vM_triedLeaked vM_triedKept vM_fitting vM_firstSet vM_inAll vM_inAny vM_at vM_sort vM_from vM_value vM_fault cM_bitsOf cM_d cM_f cM_sizeOf cM_came cM_got cM_held cM_off cM_number cM_found) H → va_D A (w_X8_judge cyI cyJ cyZ cyB cyO aM aM_bitsOf aM_d aM_f aM_sizeOf aM_came aM_got aM_held aM_off aM_number aM_found aM_e aM_kept aM_tape aM_comesUp aM_comesDown aM_path aM_gets aM_gotNow aM_passing vM_isKept vM_taped vM_leaked vM_keptAll vM_offAll vM_up vM_down vM_sharesUp vM_sharesDown vM_onUp vM_onDown vM_great vM_triedOff vM_triedLeaked vM_triedKept vM_fitting vM_firstSet vM_inAll vM_inAny vM_at vM_sort vM_from vM_value vM_fault cM_bitsOf cM_d cM_f cM_sizeOf cM_came cM_got cM_held cM_off cM_number cM_found) → va_S A s.heap H locs → lv_has ls 6 [(4, .int y4), (5, .int y5), (0, .ref aM), (1, .int x1), (2, .int x2)] → (f_X8_judge_L68 x1 x2 cM_bitsOf cM_sizeOf cM_number k68) (y4, y5, vM_leaked, vM_keptAll, vM_offAll, cM_d, cM_f, cM_came, cM_got, cM_held, cM_off, cM_found) = some out → W p l e ({ frames := 4, cells := 0, slots := 0, locals := 95 } : Room) s m args below meth c H locs 0 0 Q (F0 m 68 ls []) := by
        intro k68
        induction k68 with
        | zero => intro y4 y5 vM_leaked vM_keptAll vM_offAll cM_d cM_f cM_came cM_got cM_held cM_off cM_found H locs ls hP hD hS hl h; cases h
        | succ k68 ih68 =>
          intro y4 y5 vM_leaked vM_keptAll vM_offAll cM_d cM_f cM_came cM_got cM_held cM_off cM_found H locs ls hP hD hS hl h
          have h : f_X8_judge_L68_b x1 x2 cM_bitsOf cM_sizeOf cM_number (f_X8_judge_L68 x1 x2 cM_bitsOf cM_sizeOf cM_number k68) y4 y5 vM_leaked vM_keptAll vM_offAll cM_d cM_f cM_came cM_got cM_held cM_off cM_found = some out := h
          unfold f_X8_judge_L68_b at h
          refine lv_iload hx hb dX8_judge_68 (lv_at hl 1 rfl) ?_
          refine lv_aload_n hx hb dX8_judge_70 rfl (lv_at hl 2 rfl) ?_
          refine va_get (D := D) (ci := 7) (v := .ref aM_sizeOf) (C := RX8) (T := TX8) (N := 43) hx hb hts in_X8 hown hK hP 0 rfl rfl 40 (by decide) q1 (fun _ h9 => h9) rfl dX8_judge_71 ?_
          refine lv_iload_n hx hb dX8_judge_74 rfl (lv_at hl 3 rfl) ?_
          obtain ⟨g4, h⟩ := gd_some h
          refine va_iald hx hb hK hP 4 0 rfl rfl g4 dX8_judge_75 ?_
          have j125 : ∀ (y4 : Int32) (vM_leaked : Int32) (vM_keptAll : Int32) (vM_offAll : Int32) (cM_d : Nat → Int32) (cM_f : Nat → Int32) (cM_came : Nat → Int32) (cM_got : Nat → Int32) (cM_held : Nat → Int32) (cM_off : Nat → Int32) (cM_found : Nat → Int32) (H : Heap) (locs : List Loc) (ls : Array Slot), va_P D vwCl (w_X8_judge cyI cyJ cyZ cyB cyO aM aM_bitsOf aM_d aM_f aM_sizeOf aM_came aM_got aM_held aM_off aM_number aM_found aM_e aM_kept aM_tape aM_comesUp aM_comesDown aM_path aM_gets aM_gotNow aM_passing vM_isKept vM_taped vM_leaked vM_keptAll vM_offAll vM_up vM_down vM_sharesUp vM_sharesDown vM_onUp vM_onDown vM_great vM_triedOff vM_triedLeaked vM_triedKept vM_fitting vM_firstSet vM_inAll vM_inAny vM_at vM_sort vM_from vM_value vM_fault cM_bitsOf cM_d cM_f cM_sizeOf cM_came cM_got cM_held cM_off cM_number cM_found) H → va_D A (w_X8_judge cyI cyJ cyZ cyB cyO aM aM_bitsOf aM_d aM_f aM_sizeOf aM_came aM_got aM_held aM_off aM_number aM_found aM_e aM_kept aM_tape aM_comesUp aM_comesDown aM_path aM_gets aM_gotNow aM_passing vM_isKept vM_taped vM_leaked vM_keptAll vM_offAll vM_up vM_down vM_sharesUp vM_sharesDown vM_onUp vM_onDown vM_great vM_triedOff vM_triedLeaked vM_triedKept vM_fitting vM_firstSet vM_inAll vM_inAny vM_at vM_sort vM_from vM_value vM_fault cM_bitsOf cM_d cM_f cM_sizeOf cM_came cM_got cM_held cM_off cM_number cM_found) → va_S A s.heap H locs → lv_has ls 6 [(4, .int y4), (0, .ref aM)] → f_X8_judge_J125 x1 x2 cM_bitsOf cM_sizeOf cM_number y4 vM_leaked vM_keptAll vM_offAll cM_d cM_f cM_came cM_got cM_held cM_off cM_found = some out → W p l e ({ frames := 4, cells := 0, slots := 0, locals := 95 } : Room) s m args below meth c H locs 0 0 Q (F0 m 125 ls []) := by
            intro y4 vM_leaked vM_keptAll vM_offAll cM_d cM_f cM_came cM_got cM_held cM_off cM_found H locs ls hP hD hS hl h
            unfold f_X8_judge_J125 at h
            refine lv_aload_n hx hb dX8_judge_125 rfl (lv_at hl 1 rfl) ?_
            refine va_get (D := D) (ci := 7) (v := .ref aM_f) (C := RX8) (T := TX8) (N := 43) hx hb hts in_X8 hown hK hP 0 rfl rfl 2 (by decide) q3 (fun _ h9 => h9) rfl dX8_judge_126 ?_
            refine lv_aload_n hx hb dX8_judge_129 rfl (lv_at hl 1 rfl) ?_
            refine va_get (D := D) (ci := 7) (v := .ref aM_d) (C := RX8) (T := TX8) (N := 43) hx hb hts in_X8 hown hK hP 0 rfl rfl 0 (by decide) q2 (fun _ h9 => h9) rfl dX8_judge_130 ?_
            obtain ⟨u5, hu5, h⟩ := bd_some h
            refine cl_Sv (rest := []) F hK hP hD hS hA hl (t_X8_copies l D cyI cyJ cyZ cyB cyO aM_f aM_d cM_f cM_d u5 hu5) (va_cwS 2 hts gX8_judge_X8_copies rfl rfl rfl (by decide +kernel) ⟨Nat.le_of_ble_eq_true rfl, Nat.le_of_ble_eq_true rfl⟩) [3, 2] [0, 0, 2, 1, 0, 0, 0, 0, 0, 0, 0] [] (w_X8_judge cyI cyJ cyZ cyB cyO aM aM_bitsOf aM_d aM_f aM_sizeOf aM_came aM_got aM_held aM_off aM_number aM_found aM_e aM_kept aM_tape aM_comesUp aM_comesDown aM_path aM_gets aM_gotNow aM_passing vM_isKept vM_taped vM_leaked vM_keptAll vM_offAll vM_up vM_down vM_sharesUp vM_sharesDown vM_onUp vM_onDown vM_great vM_triedOff vM_triedLeaked vM_triedKept vM_fitting vM_firstSet vM_inAll vM_inAny vM_at vM_sort vM_from vM_value vM_fault cM_bitsOf u5 cM_f cM_sizeOf cM_came cM_got cM_held cM_off cM_number cM_found) rfl rfl rfl (by decide +kernel) rfl rfl (Nat.le_of_ble_eq_true rfl) ⟨Nat.zero_le _, Nat.zero_le _⟩ dX8_judge_133 (fun H locs hP hD hS => ?_)
            refine lv_iload hx hb dX8_judge_136 (lv_at hl 0 rfl) ?_
            obtain rfl := Option.some.inj h
            exact hret _ _ _ _ _ hP hD hS dX8_judge_138 rfl rfl
          refine lv_icmp_ge (tgt := 125) hx hb dX8_judge_76 (by decide) (fun c6 => ?_) (fun c6 => ?_)
          · have h := br_pos c6 h
            exact j125 y4 vM_leaked vM_keptAll vM_offAll cM_d cM_f cM_came cM_got cM_held cM_off cM_found _ _ _ hP hD hS (lv_sub hl [0, 2] rfl) h
          · have h := br_neg c6 h
            refine lv_iload hx hb dX8_judge_79 (lv_at hl 0 rfl) ?_
            refine lv_if_ne (tgt := 125) hx hb dX8_judge_81 (by decide) (fun c7 => ?_) (fun c7 => ?_)
            · have h := br_neg c7 h
              exact j125 y4 vM_leaked vM_keptAll vM_offAll cM_d cM_f cM_came cM_got cM_held cM_off cM_found _ _ _ hP hD hS (lv_sub hl [0, 2] rfl) h
            · have h := br_pos c7 h
              refine lv_aload_n hx hb dX8_judge_84 rfl (lv_at hl 2 rfl) ?_
              obtain ⟨u8, hu8, h⟩ := bd_some h
              refine cl_Vv (rest := []) F hK hP hD hS hA hl (t_X8_anHour l D cyI cyJ cyZ cyB cyO aM aM_d aM_came aM_got aM_held aM_off aM_e aM_f aM_kept aM_found aM_tape aM_comesUp aM_comesDown aM_path aM_gets aM_gotNow aM_bitsOf aM_sizeOf aM_number aM_passing vM_isKept vM_taped vM_leaked vM_keptAll vM_offAll vM_up vM_down vM_sharesUp vM_sharesDown vM_onUp vM_onDown vM_great vM_triedOff vM_triedLeaked vM_triedKept vM_fitting vM_firstSet vM_inAll vM_inAny vM_at vM_sort vM_from vM_value vM_fault cM_d cM_came cM_got cM_held cM_off u8 hu8) (cwV 0 hts gX8_judge_X8_anHour rfl rfl rfl (by decide +kernel) ⟨Nat.le_of_ble_eq_true rfl, Nat.le_of_ble_eq_true rfl⟩) 0 [0, 2, 5, 6, 7, 8] [1, 0, 2, 0, 0, 3, 4, 5, 6, 0, 0] [] (w_X8_judge cyI cyJ cyZ cyB cyO aM aM_bitsOf aM_d aM_f aM_sizeOf aM_came aM_got aM_held aM_off aM_number aM_found aM_e aM_kept aM_tape aM_comesUp aM_comesDown aM_path aM_gets aM_gotNow aM_passing vM_isKept vM_taped u8.1 u8.2.1 u8.2.2.1 vM_up vM_down vM_sharesUp vM_sharesDown vM_onUp vM_onDown vM_great vM_triedOff vM_triedLeaked vM_triedKept vM_fitting vM_firstSet vM_inAll vM_inAny vM_at vM_sort vM_from vM_value vM_fault cM_bitsOf u8.2.2.2.1 cM_f cM_sizeOf u8.2.2.2.2.1 u8.2.2.2.2.2.1 u8.2.2.2.2.2.2.1 u8.2.2.2.2.2.2.2 cM_number cM_found) rfl rfl rfl rfl rfl (by decide +kernel) rfl rfl (Nat.le_of_ble_eq_true rfl) ⟨Nat.zero_le _, Nat.zero_le _⟩ dX8_judge_85 (fun H locs hP hD hS => ?_)
              refine lv_aload_n hx hb dX8_judge_88 rfl (lv_at hl 2 rfl) ?_
              refine va_get (D := D) (ci := 7) (v := .ref aM_got) (C := RX8) (T := TX8) (N := 43) hx hb hts in_X8 hown hK hP 0 rfl rfl 9 (by decide) q4 (fun _ h9 => h9) rfl dX8_judge_89 ?_
              refine lv_iload_n hx hb dX8_judge_92 rfl (lv_at hl 4 rfl) ?_
              obtain ⟨g9, h⟩ := gd_some h
              refine va_iald hx hb hK hP 6 0 rfl rfl g9 dX8_judge_93 ?_
              refine lv_aload_n hx hb dX8_judge_94 rfl (lv_at hl 2 rfl) ?_
              refine va_get (D := D) (ci := 7) (v := .ref aM_number) (C := RX8) (T := TX8) (N := 43) hx hb hts in_X8 hown hK hP 0 rfl rfl 41 (by decide) q5 (fun _ h9 => h9) rfl dX8_judge_95 ?_
              refine lv_bipush (v := 40) hx hb dX8_judge_98 (by decide) ?_
              refine lv_iload_n hx hb dX8_judge_100 rfl (lv_at hl 3 rfl) ?_
              refine lv_imul hx hb dX8_judge_101 ?_
              refine lv_iload hx hb dX8_judge_102 (lv_at hl 1 rfl) ?_
              refine lv_iadd hx hb dX8_judge_104 ?_
              obtain ⟨g10, h⟩ := gd_some h
              refine va_iald hx hb hK hP 9 0 rfl rfl g10 dX8_judge_105 ?_
              refine lv_icmp_ne (tgt := 113) hx hb dX8_judge_106 (by decide) (fun c11 => ?_) (fun c11 => ?_)
              · have h := br_neg c11 h
                refine lv_iconst (v := 1) hx hb dX8_judge_113 (by decide) ?_
                refine lv_iload hx hb dX8_judge_114 (lv_at hl 1 rfl) ?_
                refine lv_iadd hx hb dX8_judge_116 ?_
                refine lv_topi (fun z12 ez12 => ?_)
                have h := nm_at ez12 h
                refine lv_istore (lv' := [(4, .int z12), (5, .int y5), (0, .ref aM), (1, .int x1), (2, .int x2)]) hx hb dX8_judge_117 hl (by decide) rfl (fun ls hl => ?_)
                refine lv_iinc (v := y5 + 1) (lv' := [(5, .int (y5 + 1)), (4, .int z12), (0, .ref aM), (1, .int x1), (2, .int x2)]) hx hb dX8_judge_119 hl (k := 1) rfl rfl (by decide) rfl (fun ls hl => ?_)
                refine lv_goto (tgt := 68) hx hb dX8_judge_122 (by decide) ?_
                exact ih68 z12 (y5 + 1) u8.1 u8.2.1 u8.2.2.1 u8.2.2.2.1 cM_f u8.2.2.2.2.1 u8.2.2.2.2.2.1 u8.2.2.2.2.2.2.1 u8.2.2.2.2.2.2.2 cM_found _ _ _ hP hD hS (lv_sub hl [1, 0, 2, 3, 4] rfl) h
              · have h := br_pos c11 h
                refine lv_iconst (v := 0) hx hb dX8_judge_109 (by decide) ?_
                refine lv_goto (tgt := 117) hx hb dX8_judge_110 (by decide) ?_
                refine lv_istore (lv' := [(4, .int (0 : Int32)), (5, .int y5), (0, .ref aM), (1, .int x1), (2, .int x2)]) hx hb dX8_judge_117 hl (by decide) rfl (fun ls hl => ?_)
                refine lv_iinc (v := y5 + 1) (lv' := [(5, .int (y5 + 1)), (4, .int (0 : Int32)), (0, .ref aM), (1, .int x1), (2, .int x2)]) hx hb dX8_judge_119 hl (k := 1) rfl rfl (by decide) rfl (fun ls hl => ?_)
                refine lv_goto (tgt := 68) hx hb dX8_judge_122 (by decide) ?_
                exact ih68 (0 : Int32) (y5 + 1) u8.1 u8.2.1 u8.2.2.1 u8.2.2.2.1 cM_f u8.2.2.2.2.1 u8.2.2.2.2.2.1 u8.2.2.2.2.2.2.1 u8.2.2.2.2.2.2.2 cM_found _ _ _ hP hD hS (lv_sub hl [1, 0, 2, 3, 4] rfl) h
      exact lp68 FU (0 : Int32) (0 : Int32) vM_leaked vM_keptAll vM_offAll cM_d u3 cM_came cM_got cM_held cM_off cM_found _ _ _ hP hD hS (lv_sub hl [1, 0, 3, 4, 5] rfl) h
    · have h := br_neg c2 h
      refine lv_aload_n hx hb dX8_judge_45 rfl (lv_at hl 1 rfl) ?_
      refine lv_iload_n hx hb dX8_judge_46 rfl (lv_at hl 0 rfl) ?_
      obtain ⟨u13, hu13, h⟩ := bd_some h
      refine cl_Vi (rest := []) F hK hP hD hS hA hl (t_X8_finds l D cyI cyJ cyZ cyB cyO aM aM_found aM_d aM_e aM_f aM_kept aM_tape aM_came aM_got aM_held aM_off aM_comesUp aM_comesDown aM_path aM_gets aM_gotNow aM_bitsOf aM_sizeOf aM_number aM_passing vM_isKept vM_taped vM_leaked vM_keptAll vM_offAll vM_up vM_down vM_sharesUp vM_sharesDown vM_onUp vM_onDown vM_great vM_triedOff vM_triedLeaked vM_triedKept vM_fitting vM_firstSet vM_inAll vM_inAny vM_at vM_sort vM_from vM_value vM_fault cM_found y3 u13 hu13) (cwV 1 hts gX8_judge_X8_finds rfl rfl rfl (by decide +kernel) ⟨Nat.le_of_ble_eq_true rfl, Nat.le_of_ble_eq_true rfl⟩) 0 [0, 10] [1, 0, 0, 0, 0, 0, 0, 0, 0, 0, 2] [] (w_X8_judge cyI cyJ cyZ cyB cyO aM aM_bitsOf aM_d aM_f aM_sizeOf aM_came aM_got aM_held aM_off aM_number aM_found aM_e aM_kept aM_tape aM_comesUp aM_comesDown aM_path aM_gets aM_gotNow aM_passing vM_isKept vM_taped vM_leaked vM_keptAll vM_offAll vM_up vM_down vM_sharesUp vM_sharesDown vM_onUp vM_onDown vM_great vM_triedOff vM_triedLeaked vM_triedKept vM_fitting vM_firstSet vM_inAll vM_inAny vM_at vM_sort vM_from vM_value vM_fault cM_bitsOf cM_d cM_f cM_sizeOf cM_came cM_got cM_held cM_off cM_number u13.2) rfl rfl rfl rfl rfl (by decide +kernel) rfl rfl (Nat.le_of_ble_eq_true rfl) ⟨Nat.zero_le _, Nat.zero_le _⟩ dX8_judge_47 (fun H locs hP hD hS => ?_)
      obtain rfl := Option.some.inj h
      exact hret _ _ _ _ _ hP hD hS dX8_judge_50 rfl rfl
  refine lv_if_ge (tgt := 41) hx hb dX8_judge_7 (by decide) (fun c14 => ?_) (fun c14 => ?_)
  · have h := br_pos c14 h
    exact j41 u1 vM_leaked vM_keptAll vM_offAll cM_d cM_f cM_came cM_got cM_held cM_off cM_found _ _ _ hP hD hS (lv_sub hl [0, 1, 2, 3] rfl) h
  · have h := br_neg c14 h
    refine lv_aload_n hx hb dX8_judge_10 rfl (lv_at hl 1 rfl) ?_
    refine lv_iload_n hx hb dX8_judge_11 rfl (lv_at hl 3 rfl) ?_
    obtain ⟨u15, hu15, h⟩ := bd_some h
    refine cl_Vi (rest := []) F hK hP hD hS hA hl (t_X8_isBasin l D cyI cyJ cyZ cyB cyO aM aM_d aM_e aM_f aM_kept aM_found aM_tape aM_came aM_got aM_held aM_off aM_comesUp aM_comesDown aM_path aM_gets aM_gotNow aM_bitsOf aM_sizeOf aM_number aM_passing vM_isKept vM_taped vM_leaked vM_keptAll vM_offAll vM_up vM_down vM_sharesUp vM_sharesDown vM_onUp vM_onDown vM_great vM_triedOff vM_triedLeaked vM_triedKept vM_fitting vM_firstSet vM_inAll vM_inAny vM_at vM_sort vM_from vM_value vM_fault cM_d x2 u15 hu15) (cwV 1 hts gX8_judge_X8_isBasin rfl rfl rfl (by decide +kernel) ⟨Nat.le_of_ble_eq_true rfl, Nat.le_of_ble_eq_true rfl⟩) 0 [0, 2] [1, 0, 2, 0, 0, 0, 0, 0, 0, 0, 0] [] (w_X8_judge cyI cyJ cyZ cyB cyO aM aM_bitsOf aM_d aM_f aM_sizeOf aM_came aM_got aM_held aM_off aM_number aM_found aM_e aM_kept aM_tape aM_comesUp aM_comesDown aM_path aM_gets aM_gotNow aM_passing vM_isKept vM_taped vM_leaked vM_keptAll vM_offAll vM_up vM_down vM_sharesUp vM_sharesDown vM_onUp vM_onDown vM_great vM_triedOff vM_triedLeaked vM_triedKept vM_fitting vM_firstSet vM_inAll vM_inAny vM_at vM_sort vM_from vM_value vM_fault cM_bitsOf cM_d cM_f cM_sizeOf cM_came cM_got cM_held cM_off cM_number cM_found) rfl rfl rfl rfl rfl (by decide +kernel) rfl rfl (Nat.le_of_ble_eq_true rfl) ⟨Nat.zero_le _, Nat.zero_le _⟩ dX8_judge_12 (fun H locs hP hD hS => ?_)
    refine lv_if_ne (tgt := 22) hx hb dX8_judge_15 (by decide) (fun c16 => ?_) (fun c16 => ?_)
    · have h := br_neg c16 h
      refine lv_aload_n hx hb dX8_judge_22 rfl (lv_at hl 1 rfl) ?_
      refine lv_aload_n hx hb dX8_judge_23 rfl (lv_at hl 1 rfl) ?_
      refine va_get (D := D) (ci := 7) (v := .ref aM_sizeOf) (C := RX8) (T := TX8) (N := 43) hx hb hts in_X8 hown hK hP 0 rfl rfl 40 (by decide) q1 (fun _ h9 => h9) rfl dX8_judge_24 ?_
      refine lv_iload_n hx hb dX8_judge_27 rfl (lv_at hl 2 rfl) ?_
      obtain ⟨g17, h⟩ := gd_some h
      refine va_iald hx hb hK hP 4 0 rfl rfl g17 dX8_judge_28 ?_
      obtain ⟨u18, hu18, h⟩ := bd_some h
      refine cl_Vi (rest := []) F hK hP hD hS hA hl (t_X8_isLate l D cyI cyJ cyZ cyB cyO aM aM_d aM_e aM_f aM_kept aM_found aM_tape aM_came aM_got aM_held aM_off aM_comesUp aM_comesDown aM_path aM_gets aM_gotNow aM_bitsOf aM_sizeOf aM_number aM_passing vM_isKept vM_taped vM_leaked vM_keptAll vM_offAll vM_up vM_down vM_sharesUp vM_sharesDown vM_onUp vM_onDown vM_great vM_triedOff vM_triedLeaked vM_triedKept vM_fitting vM_firstSet vM_inAll vM_inAny vM_at vM_sort vM_from vM_value vM_fault cM_d (cM_sizeOf x1.toNatClampNeg) u18 hu18) (cwV 1 hts gX8_judge_X8_isLate rfl rfl rfl (by decide +kernel) ⟨Nat.le_of_ble_eq_true rfl, Nat.le_of_ble_eq_true rfl⟩) 0 [0, 2] [1, 0, 2, 0, 0, 0, 0, 0, 0, 0, 0] [] (w_X8_judge cyI cyJ cyZ cyB cyO aM aM_bitsOf aM_d aM_f aM_sizeOf aM_came aM_got aM_held aM_off aM_number aM_found aM_e aM_kept aM_tape aM_comesUp aM_comesDown aM_path aM_gets aM_gotNow aM_passing vM_isKept vM_taped vM_leaked vM_keptAll vM_offAll vM_up vM_down vM_sharesUp vM_sharesDown vM_onUp vM_onDown vM_great vM_triedOff vM_triedLeaked vM_triedKept vM_fitting vM_firstSet vM_inAll vM_inAny vM_at vM_sort vM_from vM_value vM_fault cM_bitsOf cM_d cM_f cM_sizeOf cM_came cM_got cM_held cM_off cM_number cM_found) rfl rfl rfl rfl rfl (by decide +kernel) rfl rfl (Nat.le_of_ble_eq_true rfl) ⟨Nat.zero_le _, Nat.zero_le _⟩ dX8_judge_29 (fun H locs hP hD hS => ?_)
      refine lv_if_eq (tgt := 39) hx hb dX8_judge_32 (by decide) (fun c19 => ?_) (fun c19 => ?_)
      · have h := br_pos c19 h
        refine lv_iconst (v := -1) hx hb dX8_judge_39 (by decide) ?_
        refine lv_istore_n (lv' := [(3, .int (-1 : Int32)), (0, .ref aM), (1, .int x1), (2, .int x2)]) hx hb dX8_judge_40 rfl hl (by decide) rfl (fun ls hl => ?_)
        exact j41 (-1 : Int32) vM_leaked vM_keptAll vM_offAll cM_d cM_f cM_came cM_got cM_held cM_off cM_found _ _ _ hP hD hS (lv_sub hl [0, 1, 2, 3] rfl) h
      · have h := br_neg c19 h
        refine lv_iconst (v := 4) hx hb dX8_judge_35 (by decide) ?_
        refine lv_goto (tgt := 40) hx hb dX8_judge_36 (by decide) ?_
        refine lv_istore_n (lv' := [(3, .int (4 : Int32)), (0, .ref aM), (1, .int x1), (2, .int x2)]) hx hb dX8_judge_40 rfl hl (by decide) rfl (fun ls hl => ?_)
        exact j41 (4 : Int32) vM_leaked vM_keptAll vM_offAll cM_d cM_f cM_came cM_got cM_held cM_off cM_found _ _ _ hP hD hS (lv_sub hl [0, 1, 2, 3] rfl) h
    · have h := br_pos c16 h
      refine lv_iconst (v := 0) hx hb dX8_judge_18 (by decide) ?_
      refine lv_goto (tgt := 40) hx hb dX8_judge_19 (by decide) ?_
      refine lv_istore_n (lv' := [(3, .int (0 : Int32)), (0, .ref aM), (1, .int x1), (2, .int x2)]) hx hb dX8_judge_40 rfl hl (by decide) rfl (fun ls hl => ?_)
      exact j41 (0 : Int32) vM_leaked vM_keptAll vM_offAll cM_d cM_f cM_came cM_got cM_held cM_off cM_found _ _ _ hP hD hS (lv_sub hl [0, 1, 2, 3] rfl) h
/-! ===== X8_image ===== -/
def w_X8_image (cyI cyJ cyZ cyB cyO : ClassId) (aM aM_d aM_kept aM_e aM_f aM_found aM_tape aM_came aM_got aM_held aM_off aM_comesUp aM_comesDown aM_path aM_gets aM_gotNow aM_bitsOf aM_sizeOf aM_number aM_passing : Nat) (vM_isKept : Int32) (vM_taped : Int32) (vM_leaked : Int32) (vM_keptAll : Int32) (vM_offAll : Int32) (vM_up : Int64) (vM_down : Int64) (vM_sharesUp : Int64) (vM_sharesDown : Int64) (vM_onUp : Int64) (vM_onDown : Int64) (vM_great : Int32) (vM_triedOff : Int32) (vM_triedLeaked : Int32) (vM_triedKept : Int32) (vM_fitting : Int32) (vM_firstSet : Int32) (vM_inAll : Int32) (vM_inAny : Int32) (vM_at : Int32) (vM_sort : Int32) (vM_from : Int32) (vM_value : Int64) (vM_fault : Int32) (cM_d : Nat → Int32) (cM_kept : Nat → Int32) : va_W := [(aM, .inr (7, [.ref aM_d, .ref aM_e, .ref aM_f, .ref aM_kept, .int vM_isKept, .ref aM_found, .ref aM_tape, .int vM_taped, .ref aM_came, .ref aM_got, .ref aM_held, .ref aM_off, .int vM_leaked, .int vM_keptAll, .int vM_offAll, .ref aM_comesUp, .ref aM_comesDown, .long vM_up, .long vM_down, .long vM_sharesUp, .long vM_sharesDown, .long vM_onUp, .long vM_onDown, .int vM_great, .ref aM_path, .ref aM_gets, .int vM_triedOff, .int vM_triedLeaked, .int vM_triedKept, .ref aM_gotNow, .int vM_fitting, .int vM_firstSet, .int vM_inAll, .int vM_inAny, .int vM_at, .int vM_sort, .int vM_from, .long vM_value, .int vM_fault, .ref aM_bitsOf, .ref aM_sizeOf, .ref aM_number, .ref aM_passing])), (aM_d, .inl (cyI, 64, .inl cM_d)), (aM_kept, .inl (cyI, 64, .inl cM_kept))]
set_option maxHeartbeats 4000000 in
set_option maxRecDepth 100000 in
theorem t_X8_image (l : Launch) (D : va_G) (cyI cyJ cyZ cyB cyO : ClassId) (aM aM_d aM_kept aM_e aM_f aM_found aM_tape aM_came aM_got aM_held aM_off aM_comesUp aM_comesDown aM_path aM_gets aM_gotNow aM_bitsOf aM_sizeOf aM_number aM_passing : Nat) (vM_isKept : Int32) (vM_taped : Int32) (vM_leaked : Int32) (vM_keptAll : Int32) (vM_offAll : Int32) (vM_up : Int64) (vM_down : Int64) (vM_sharesUp : Int64) (vM_sharesDown : Int64) (vM_onUp : Int64) (vM_onDown : Int64) (vM_great : Int32) (vM_triedOff : Int32) (vM_triedLeaked : Int32) (vM_triedKept : Int32) (vM_fitting : Int32) (vM_firstSet : Int32) (vM_inAll : Int32) (vM_inAny : Int32) (vM_at : Int32) (vM_sort : Int32) (vM_from : Int32) (vM_value : Int64) (vM_fault : Int32) (cM_d : Nat → Int32) (cM_kept : Nat → Int32) (out : Int32 × Int32 × (Nat → Int32)) (h : f_X8_image vM_isKept cM_d cM_kept = some out) : Mi l yX8_image wsX8_image ({ frames := 1, cells := 0, slots := 0, locals := 22 } : Room) D (tyA cyI cyJ cyZ cyB cyO) [.ref aM] (w_X8_image cyI cyJ cyZ cyB cyO aM aM_d aM_kept aM_e aM_f aM_found aM_tape aM_came aM_got aM_held aM_off aM_comesUp aM_comesDown aM_path aM_gets aM_gotNow aM_bitsOf aM_sizeOf aM_number aM_passing vM_isKept vM_taped vM_leaked vM_keptAll vM_offAll vM_up vM_down vM_sharesUp vM_sharesDown vM_onUp vM_onDown vM_great vM_triedOff vM_triedLeaked vM_triedKept vM_fitting vM_firstSet vM_inAll vM_inAny vM_at vM_sort vM_from vM_value vM_fault cM_d cM_kept) (w_X8_image cyI cyJ cyZ cyB cyO aM aM_d aM_kept aM_e aM_f aM_found aM_tape aM_came aM_got aM_held aM_off aM_comesUp aM_comesDown aM_path aM_gets aM_gotNow aM_bitsOf aM_sizeOf aM_number aM_passing out.2.1 vM_taped vM_leaked vM_keptAll vM_offAll vM_up vM_down vM_sharesUp vM_sharesDown vM_onUp vM_onDown vM_great vM_triedOff vM_triedLeaked vM_triedKept vM_fitting vM_firstSet vM_inAll vM_inAny vM_at vM_sort vM_from vM_value vM_fault cM_d out.2.2) out.1 := by
  refine Mi.mk (cc := cX8_image) (maxL := 1) (rt := .int) (own := RX8) (by decide) rfl rfl (Nat.le_of_ble_eq_true rfl) ?_
  intro p e s m args below meth c A Q F hK hP hD hA hret ls hl
  obtain ⟨hx, hb, hml, hown, hts⟩ := id F
  have hS : va_S A s.heap s.heap [] := va_S.rf
  have hl : lv_has ls 1 [(0, .ref aM)] := hl
  have in_X8 : ∀ w ∈ wsX80, w ∈ wsX8_image := by decide +kernel
  have q1 := hts (Cond.fieldLink RX8 7 "ThirdFountainModel" "d" "[I") (List.mem_of_getElem? (i := 1) rfl)
  have q2 := hts (Cond.fieldLink RX8 19 "ThirdFountainModel" "kept" "[I") (List.mem_of_getElem? (i := 2) rfl)
  have q4 := hts (Cond.methodLink RX8 189 yX8_copies) (List.mem_of_getElem? (i := 4) rfl)
  have q3 := hts (Cond.fieldLink RX8 362 "ThirdFountainModel" "isKept" "Z") (List.mem_of_getElem? (i := 3) rfl)
  unfold f_X8_image at h
  refine lv_aload_n hx hb dX8_image_0 rfl (lv_at hl 0 rfl) ?_
  refine va_get (D := D) (ci := 7) (v := .ref aM_d) (C := RX8) (T := TX8) (N := 43) hx hb hts in_X8 hown hK hP 0 rfl rfl 0 (by decide) q1 (fun _ h9 => h9) rfl dX8_image_1 ?_
  refine lv_aload_n hx hb dX8_image_4 rfl (lv_at hl 0 rfl) ?_
  refine va_get (D := D) (ci := 7) (v := .ref aM_kept) (C := RX8) (T := TX8) (N := 43) hx hb hts in_X8 hown hK hP 0 rfl rfl 3 (by decide) q2 (fun _ h9 => h9) rfl dX8_image_5 ?_
  obtain ⟨u1, hu1, h⟩ := bd_some h
  refine cl_Sv (rest := []) F hK hP hD hS hA hl (t_X8_copies l D cyI cyJ cyZ cyB cyO aM_d aM_kept cM_d cM_kept u1 hu1) (va_cwS 2 hts gX8_image_X8_copies rfl rfl rfl (by decide +kernel) ⟨Nat.le_of_ble_eq_true rfl, Nat.le_of_ble_eq_true rfl⟩) [1, 2] [0, 1, 2] [] (w_X8_image cyI cyJ cyZ cyB cyO aM aM_d aM_kept aM_e aM_f aM_found aM_tape aM_came aM_got aM_held aM_off aM_comesUp aM_comesDown aM_path aM_gets aM_gotNow aM_bitsOf aM_sizeOf aM_number aM_passing vM_isKept vM_taped vM_leaked vM_keptAll vM_offAll vM_up vM_down vM_sharesUp vM_sharesDown vM_onUp vM_onDown vM_great vM_triedOff vM_triedLeaked vM_triedKept vM_fitting vM_firstSet vM_inAll vM_inAny vM_at vM_sort vM_from vM_value vM_fault cM_d u1) rfl rfl rfl (by decide +kernel) rfl rfl (Nat.le_of_ble_eq_true rfl) ⟨Nat.zero_le _, Nat.zero_le _⟩ dX8_image_8 (fun H locs hP hD hS => ?_)
  refine lv_aload_n hx hb dX8_image_11 rfl (lv_at hl 0 rfl) ?_
  refine lv_iconst (v := 1) hx hb dX8_image_12 (by decide) ?_
  refine va_put (D := D) (ci := 7) (v := .int (1 : Int32)) (ty := .boolean) (C := RX8) (T := TX8) (N := 43) hx hb hts in_X8 tyX8 tyX8_ok nmX8 hown hK hP hD hS 0 rfl rfl 4 (by decide) q3 (fun _ h9 => h9) rfl (by decide +kernel) (nz_of (Or.inr rfl)) (fz_of (Or.inr rfl)) (Nat.le_of_ble_eq_true rfl) dX8_image_13 (fun H locs hP hD hS => ?_)
  have hP : va_P D vwCl (w_X8_image cyI cyJ cyZ cyB cyO aM aM_d aM_kept aM_e aM_f aM_found aM_tape aM_came aM_got aM_held aM_off aM_comesUp aM_comesDown aM_path aM_gets aM_gotNow aM_bitsOf aM_sizeOf aM_number aM_passing (1 : Int32) vM_taped vM_leaked vM_keptAll vM_offAll vM_up vM_down vM_sharesUp vM_sharesDown vM_onUp vM_onDown vM_great vM_triedOff vM_triedLeaked vM_triedKept vM_fitting vM_firstSet vM_inAll vM_inAny vM_at vM_sort vM_from vM_value vM_fault cM_d u1) H := hP
  have hD : va_D A (w_X8_image cyI cyJ cyZ cyB cyO aM aM_d aM_kept aM_e aM_f aM_found aM_tape aM_came aM_got aM_held aM_off aM_comesUp aM_comesDown aM_path aM_gets aM_gotNow aM_bitsOf aM_sizeOf aM_number aM_passing (1 : Int32) vM_taped vM_leaked vM_keptAll vM_offAll vM_up vM_down vM_sharesUp vM_sharesDown vM_onUp vM_onDown vM_great vM_triedOff vM_triedLeaked vM_triedKept vM_fitting vM_firstSet vM_inAll vM_inAny vM_at vM_sort vM_from vM_value vM_fault cM_d u1) := hD
  refine lv_iconst (v := 1) hx hb dX8_image_16 (by decide) ?_
  obtain rfl := Option.some.inj h
  exact hret _ _ _ _ _ hP hD hS dX8_image_17 rfl rfl
/-! ===== X8_undo ===== -/
def w_X8_undo (cyI cyJ cyZ cyB cyO : ClassId) (aM aM_kept aM_d aM_found aM_e aM_f aM_tape aM_came aM_got aM_held aM_off aM_comesUp aM_comesDown aM_path aM_gets aM_gotNow aM_bitsOf aM_sizeOf aM_number aM_passing : Nat) (vM_isKept : Int32) (vM_taped : Int32) (vM_leaked : Int32) (vM_keptAll : Int32) (vM_offAll : Int32) (vM_up : Int64) (vM_down : Int64) (vM_sharesUp : Int64) (vM_sharesDown : Int64) (vM_onUp : Int64) (vM_onDown : Int64) (vM_great : Int32) (vM_triedOff : Int32) (vM_triedLeaked : Int32) (vM_triedKept : Int32) (vM_fitting : Int32) (vM_firstSet : Int32) (vM_inAll : Int32) (vM_inAny : Int32) (vM_at : Int32) (vM_sort : Int32) (vM_from : Int32) (vM_value : Int64) (vM_fault : Int32) (cM_kept : Nat → Int32) (cM_d : Nat → Int32) (cM_found : Nat → Int32) : va_W := [(aM, .inr (7, [.ref aM_d, .ref aM_e, .ref aM_f, .ref aM_kept, .int vM_isKept, .ref aM_found, .ref aM_tape, .int vM_taped, .ref aM_came, .ref aM_got, .ref aM_held, .ref aM_off, .int vM_leaked, .int vM_keptAll, .int vM_offAll, .ref aM_comesUp, .ref aM_comesDown, .long vM_up, .long vM_down, .long vM_sharesUp, .long vM_sharesDown, .long vM_onUp, .long vM_onDown, .int vM_great, .ref aM_path, .ref aM_gets, .int vM_triedOff, .int vM_triedLeaked, .int vM_triedKept, .ref aM_gotNow, .int vM_fitting, .int vM_firstSet, .int vM_inAll, .int vM_inAny, .int vM_at, .int vM_sort, .int vM_from, .long vM_value, .int vM_fault, .ref aM_bitsOf, .ref aM_sizeOf, .ref aM_number, .ref aM_passing])), (aM_kept, .inl (cyI, 64, .inl cM_kept)), (aM_d, .inl (cyI, 64, .inl cM_d)), (aM_found, .inl (cyI, 7, .inl cM_found))]
set_option maxHeartbeats 4000000 in
set_option maxRecDepth 100000 in
theorem t_X8_undo (l : Launch) (D : va_G) (cyI cyJ cyZ cyB cyO : ClassId) (aM aM_kept aM_d aM_found aM_e aM_f aM_tape aM_came aM_got aM_held aM_off aM_comesUp aM_comesDown aM_path aM_gets aM_gotNow aM_bitsOf aM_sizeOf aM_number aM_passing : Nat) (vM_isKept : Int32) (vM_taped : Int32) (vM_leaked : Int32) (vM_keptAll : Int32) (vM_offAll : Int32) (vM_up : Int64) (vM_down : Int64) (vM_sharesUp : Int64) (vM_sharesDown : Int64) (vM_onUp : Int64) (vM_onDown : Int64) (vM_great : Int32) (vM_triedOff : Int32) (vM_triedLeaked : Int32) (vM_triedKept : Int32) (vM_fitting : Int32) (vM_firstSet : Int32) (vM_inAll : Int32) (vM_inAny : Int32) (vM_at : Int32) (vM_sort : Int32) (vM_from : Int32) (vM_value : Int64) (vM_fault : Int32) (cM_kept : Nat → Int32) (cM_d : Nat → Int32) (cM_found : Nat → Int32) (out : Int32 × (Nat → Int32) × (Nat → Int32)) (h : f_X8_undo vM_isKept cM_kept cM_d cM_found = some out) : Mi l yX8_undo wsX8_undo ({ frames := 1, cells := 0, slots := 0, locals := 22 } : Room) D (tyA cyI cyJ cyZ cyB cyO) [.ref aM] (w_X8_undo cyI cyJ cyZ cyB cyO aM aM_kept aM_d aM_found aM_e aM_f aM_tape aM_came aM_got aM_held aM_off aM_comesUp aM_comesDown aM_path aM_gets aM_gotNow aM_bitsOf aM_sizeOf aM_number aM_passing vM_isKept vM_taped vM_leaked vM_keptAll vM_offAll vM_up vM_down vM_sharesUp vM_sharesDown vM_onUp vM_onDown vM_great vM_triedOff vM_triedLeaked vM_triedKept vM_fitting vM_firstSet vM_inAll vM_inAny vM_at vM_sort vM_from vM_value vM_fault cM_kept cM_d cM_found) (w_X8_undo cyI cyJ cyZ cyB cyO aM aM_kept aM_d aM_found aM_e aM_f aM_tape aM_came aM_got aM_held aM_off aM_comesUp aM_comesDown aM_path aM_gets aM_gotNow aM_bitsOf aM_sizeOf aM_number aM_passing vM_isKept vM_taped vM_leaked vM_keptAll vM_offAll vM_up vM_down vM_sharesUp vM_sharesDown vM_onUp vM_onDown vM_great vM_triedOff vM_triedLeaked vM_triedKept vM_fitting vM_firstSet vM_inAll vM_inAny vM_at vM_sort vM_from vM_value vM_fault cM_kept out.2.1 out.2.2) out.1 := by
  refine Mi.mk (cc := cX8_undo) (maxL := 1) (rt := .int) (own := RX8) (by decide) rfl rfl (Nat.le_of_ble_eq_true rfl) ?_
  intro p e s m args below meth c A Q F hK hP hD hA hret ls hl
  obtain ⟨hx, hb, hml, hown, hts⟩ := id F
  have hS : va_S A s.heap s.heap [] := va_S.rf
  have hl : lv_has ls 1 [(0, .ref aM)] := hl
  have in_X8 : ∀ w ∈ wsX80, w ∈ wsX8_undo := by decide +kernel
  have q1 := hts (Cond.fieldLink RX8 362 "ThirdFountainModel" "isKept" "Z") (List.mem_of_getElem? (i := 1) rfl)
  have q2 := hts (Cond.fieldLink RX8 19 "ThirdFountainModel" "kept" "[I") (List.mem_of_getElem? (i := 2) rfl)
  have q3 := hts (Cond.fieldLink RX8 7 "ThirdFountainModel" "d" "[I") (List.mem_of_getElem? (i := 3) rfl)
  have q11 := hts (Cond.methodLink RX8 189 yX8_copies) (List.mem_of_getElem? (i := 11) rfl)
  have q4 := hts (Cond.methodLink RX8 115 yX8_finds) (List.mem_of_getElem? (i := 4) rfl)
  unfold f_X8_undo at h
  refine lv_aload_n hx hb dX8_undo_0 rfl (lv_at hl 0 rfl) ?_
  refine va_get (D := D) (ci := 7) (v := .int vM_isKept) (C := RX8) (T := TX8) (N := 43) hx hb hts in_X8 hown hK hP 0 rfl rfl 4 (by decide) q1 (fun _ h9 => h9) rfl dX8_undo_1 ?_
  refine lv_if_ne (tgt := 13) hx hb dX8_undo_4 (by decide) (fun c1 => ?_) (fun c1 => ?_)
  · have h := br_neg c1 h
    refine lv_aload_n hx hb dX8_undo_13 rfl (lv_at hl 0 rfl) ?_
    refine va_get (D := D) (ci := 7) (v := .ref aM_kept) (C := RX8) (T := TX8) (N := 43) hx hb hts in_X8 hown hK hP 0 rfl rfl 3 (by decide) q2 (fun _ h9 => h9) rfl dX8_undo_14 ?_
    refine lv_aload_n hx hb dX8_undo_17 rfl (lv_at hl 0 rfl) ?_
    refine va_get (D := D) (ci := 7) (v := .ref aM_d) (C := RX8) (T := TX8) (N := 43) hx hb hts in_X8 hown hK hP 0 rfl rfl 0 (by decide) q3 (fun _ h9 => h9) rfl dX8_undo_18 ?_
    obtain ⟨u2, hu2, h⟩ := bd_some h
    refine cl_Sv (rest := []) F hK hP hD hS hA hl (t_X8_copies l D cyI cyJ cyZ cyB cyO aM_kept aM_d cM_kept cM_d u2 hu2) (va_cwS 2 hts gX8_undo_X8_copies rfl rfl rfl (by decide +kernel) ⟨Nat.le_of_ble_eq_true rfl, Nat.le_of_ble_eq_true rfl⟩) [1, 2] [0, 1, 2, 0] [] (w_X8_undo cyI cyJ cyZ cyB cyO aM aM_kept aM_d aM_found aM_e aM_f aM_tape aM_came aM_got aM_held aM_off aM_comesUp aM_comesDown aM_path aM_gets aM_gotNow aM_bitsOf aM_sizeOf aM_number aM_passing vM_isKept vM_taped vM_leaked vM_keptAll vM_offAll vM_up vM_down vM_sharesUp vM_sharesDown vM_onUp vM_onDown vM_great vM_triedOff vM_triedLeaked vM_triedKept vM_fitting vM_firstSet vM_inAll vM_inAny vM_at vM_sort vM_from vM_value vM_fault cM_kept u2 cM_found) rfl rfl rfl (by decide +kernel) rfl rfl (Nat.le_of_ble_eq_true rfl) ⟨Nat.zero_le _, Nat.zero_le _⟩ dX8_undo_21 (fun H locs hP hD hS => ?_)
    refine lv_aload_n hx hb dX8_undo_24 rfl (lv_at hl 0 rfl) ?_
    refine va_get (D := D) (ci := 7) (v := .ref aM_d) (C := RX8) (T := TX8) (N := 43) hx hb hts in_X8 hown hK hP 0 rfl rfl 0 (by decide) q3 (fun _ h9 => h9) rfl dX8_undo_25 ?_
    refine lv_iconst (v := 1) hx hb dX8_undo_28 (by decide) ?_
    refine va_iald hx hb hK hP 2 0 rfl rfl (by unfold vp_in; decide) dX8_undo_29 ?_
    obtain rfl := Option.some.inj h
    exact hret _ _ _ _ _ hP hD hS dX8_undo_30 rfl rfl
  · have h := br_pos c1 h
    refine lv_aload_n hx hb dX8_undo_7 rfl (lv_at hl 0 rfl) ?_
    refine lv_iconst (v := 3) hx hb dX8_undo_8 (by decide) ?_
    obtain ⟨u3, hu3, h⟩ := bd_some h
    refine cl_Vi (rest := []) F hK hP hD hS hA hl (t_X8_finds l D cyI cyJ cyZ cyB cyO aM aM_found aM_d aM_e aM_f aM_kept aM_tape aM_came aM_got aM_held aM_off aM_comesUp aM_comesDown aM_path aM_gets aM_gotNow aM_bitsOf aM_sizeOf aM_number aM_passing vM_isKept vM_taped vM_leaked vM_keptAll vM_offAll vM_up vM_down vM_sharesUp vM_sharesDown vM_onUp vM_onDown vM_great vM_triedOff vM_triedLeaked vM_triedKept vM_fitting vM_firstSet vM_inAll vM_inAny vM_at vM_sort vM_from vM_value vM_fault cM_found (3 : Int32) u3 hu3) (cwV 1 hts gX8_undo_X8_finds rfl rfl rfl (by decide +kernel) ⟨Nat.le_of_ble_eq_true rfl, Nat.le_of_ble_eq_true rfl⟩) 0 [0, 3] [1, 0, 0, 2] [] (w_X8_undo cyI cyJ cyZ cyB cyO aM aM_kept aM_d aM_found aM_e aM_f aM_tape aM_came aM_got aM_held aM_off aM_comesUp aM_comesDown aM_path aM_gets aM_gotNow aM_bitsOf aM_sizeOf aM_number aM_passing vM_isKept vM_taped vM_leaked vM_keptAll vM_offAll vM_up vM_down vM_sharesUp vM_sharesDown vM_onUp vM_onDown vM_great vM_triedOff vM_triedLeaked vM_triedKept vM_fitting vM_firstSet vM_inAll vM_inAny vM_at vM_sort vM_from vM_value vM_fault cM_kept cM_d u3.2) rfl rfl rfl rfl rfl (by decide +kernel) rfl rfl (Nat.le_of_ble_eq_true rfl) ⟨Nat.zero_le _, Nat.zero_le _⟩ dX8_undo_9 (fun H locs hP hD hS => ?_)
    obtain rfl := Option.some.inj h
    exact hret _ _ _ _ _ hP hD hS dX8_undo_12 rfl rfl
/-! ===== X8_tear ===== -/
def w_X8_tear (cyI cyJ cyZ cyB cyO : ClassId) (aM aM_d aM_e aM_f aM_kept aM_found aM_tape aM_came aM_got aM_held aM_off aM_comesUp aM_comesDown aM_path aM_gets aM_gotNow aM_bitsOf aM_sizeOf aM_number aM_passing : Nat) (vM_isKept : Int32) (vM_taped : Int32) (vM_leaked : Int32) (vM_keptAll : Int32) (vM_offAll : Int32) (vM_up : Int64) (vM_down : Int64) (vM_sharesUp : Int64) (vM_sharesDown : Int64) (vM_onUp : Int64) (vM_onDown : Int64) (vM_great : Int32) (vM_triedOff : Int32) (vM_triedLeaked : Int32) (vM_triedKept : Int32) (vM_fitting : Int32) (vM_firstSet : Int32) (vM_inAll : Int32) (vM_inAny : Int32) (vM_at : Int32) (vM_sort : Int32) (vM_from : Int32) (vM_value : Int64) (vM_fault : Int32) : va_W := [(aM, .inr (7, [.ref aM_d, .ref aM_e, .ref aM_f, .ref aM_kept, .int vM_isKept, .ref aM_found, .ref aM_tape, .int vM_taped, .ref aM_came, .ref aM_got, .ref aM_held, .ref aM_off, .int vM_leaked, .int vM_keptAll, .int vM_offAll, .ref aM_comesUp, .ref aM_comesDown, .long vM_up, .long vM_down, .long vM_sharesUp, .long vM_sharesDown, .long vM_onUp, .long vM_onDown, .int vM_great, .ref aM_path, .ref aM_gets, .int vM_triedOff, .int vM_triedLeaked, .int vM_triedKept, .ref aM_gotNow, .int vM_fitting, .int vM_firstSet, .int vM_inAll, .int vM_inAny, .int vM_at, .int vM_sort, .int vM_from, .long vM_value, .int vM_fault, .ref aM_bitsOf, .ref aM_sizeOf, .ref aM_number, .ref aM_passing]))]
set_option maxHeartbeats 4000000 in
set_option maxRecDepth 100000 in
theorem t_X8_tear (l : Launch) (D : va_G) (cyI cyJ cyZ cyB cyO : ClassId) (aM aM_d aM_e aM_f aM_kept aM_found aM_tape aM_came aM_got aM_held aM_off aM_comesUp aM_comesDown aM_path aM_gets aM_gotNow aM_bitsOf aM_sizeOf aM_number aM_passing : Nat) (vM_isKept : Int32) (vM_taped : Int32) (vM_leaked : Int32) (vM_keptAll : Int32) (vM_offAll : Int32) (vM_up : Int64) (vM_down : Int64) (vM_sharesUp : Int64) (vM_sharesDown : Int64) (vM_onUp : Int64) (vM_onDown : Int64) (vM_great : Int32) (vM_triedOff : Int32) (vM_triedLeaked : Int32) (vM_triedKept : Int32) (vM_fitting : Int32) (vM_firstSet : Int32) (vM_inAll : Int32) (vM_inAny : Int32) (vM_at : Int32) (vM_sort : Int32) (vM_from : Int32) (vM_value : Int64) (vM_fault : Int32) (out : Int32 × Int32) (h : f_X8_tear vM_isKept = some out) : Mi l yX8_tear wsX8_tear ({ frames := 0, cells := 0, slots := 0, locals := 0 } : Room) D (tyA cyI cyJ cyZ cyB cyO) [.ref aM] (w_X8_tear cyI cyJ cyZ cyB cyO aM aM_d aM_e aM_f aM_kept aM_found aM_tape aM_came aM_got aM_held aM_off aM_comesUp aM_comesDown aM_path aM_gets aM_gotNow aM_bitsOf aM_sizeOf aM_number aM_passing vM_isKept vM_taped vM_leaked vM_keptAll vM_offAll vM_up vM_down vM_sharesUp vM_sharesDown vM_onUp vM_onDown vM_great vM_triedOff vM_triedLeaked vM_triedKept vM_fitting vM_firstSet vM_inAll vM_inAny vM_at vM_sort vM_from vM_value vM_fault) (w_X8_tear cyI cyJ cyZ cyB cyO aM aM_d aM_e aM_f aM_kept aM_found aM_tape aM_came aM_got aM_held aM_off aM_comesUp aM_comesDown aM_path aM_gets aM_gotNow aM_bitsOf aM_sizeOf aM_number aM_passing out.2 vM_taped vM_leaked vM_keptAll vM_offAll vM_up vM_down vM_sharesUp vM_sharesDown vM_onUp vM_onDown vM_great vM_triedOff vM_triedLeaked vM_triedKept vM_fitting vM_firstSet vM_inAll vM_inAny vM_at vM_sort vM_from vM_value vM_fault) out.1 := by
  refine Mi.mk (cc := cX8_tear) (maxL := 2) (rt := .int) (own := RX8) (by decide) rfl rfl (Nat.le_of_ble_eq_true rfl) ?_
  intro p e s m args below meth c A Q F hK hP hD hA hret ls hl
  obtain ⟨hx, hb, hml, hown, hts⟩ := id F
  have hS : va_S A s.heap s.heap [] := va_S.rf
  have hl : lv_has ls 2 [(0, .ref aM)] := hl
  have in_X8 : ∀ w ∈ wsX80, w ∈ wsX8_tear := by decide +kernel
  have q1 := hts (Cond.fieldLink RX8 362 "ThirdFountainModel" "isKept" "Z") (List.mem_of_getElem? (i := 1) rfl)
  unfold f_X8_tear at h
  refine lv_aload_n hx hb dX8_tear_0 rfl (lv_at hl 0 rfl) ?_
  refine va_get (D := D) (ci := 7) (v := .int vM_isKept) (C := RX8) (T := TX8) (N := 43) hx hb hts in_X8 hown hK hP 0 rfl rfl 4 (by decide) q1 (fun _ h9 => h9) rfl dX8_tear_1 ?_
  refine lv_if_eq (tgt := 11) hx hb dX8_tear_4 (by decide) (fun c1 => ?_) (fun c1 => ?_)
  · have h := br_pos c1 h
    refine lv_iconst (v := 0) hx hb dX8_tear_11 (by decide) ?_
    refine lv_istore_n (lv' := [(1, .int (0 : Int32)), (0, .ref aM)]) hx hb dX8_tear_12 rfl hl (by decide) rfl (fun ls hl => ?_)
    refine lv_aload_n hx hb dX8_tear_13 rfl (lv_at hl 1 rfl) ?_
    refine lv_iconst (v := 0) hx hb dX8_tear_14 (by decide) ?_
    refine va_put (D := D) (ci := 7) (v := .int (0 : Int32)) (ty := .boolean) (C := RX8) (T := TX8) (N := 43) hx hb hts in_X8 tyX8 tyX8_ok nmX8 hown hK hP hD hS 0 rfl rfl 4 (by decide) q1 (fun _ h9 => h9) rfl (by decide +kernel) (nz_of (Or.inl rfl)) (fz_of (Or.inl rfl)) (Nat.le_of_ble_eq_true rfl) dX8_tear_15 (fun H locs hP hD hS => ?_)
    have hP : va_P D vwCl (w_X8_tear cyI cyJ cyZ cyB cyO aM aM_d aM_e aM_f aM_kept aM_found aM_tape aM_came aM_got aM_held aM_off aM_comesUp aM_comesDown aM_path aM_gets aM_gotNow aM_bitsOf aM_sizeOf aM_number aM_passing (0 : Int32) vM_taped vM_leaked vM_keptAll vM_offAll vM_up vM_down vM_sharesUp vM_sharesDown vM_onUp vM_onDown vM_great vM_triedOff vM_triedLeaked vM_triedKept vM_fitting vM_firstSet vM_inAll vM_inAny vM_at vM_sort vM_from vM_value vM_fault) H := hP
    have hD : va_D A (w_X8_tear cyI cyJ cyZ cyB cyO aM aM_d aM_e aM_f aM_kept aM_found aM_tape aM_came aM_got aM_held aM_off aM_comesUp aM_comesDown aM_path aM_gets aM_gotNow aM_bitsOf aM_sizeOf aM_number aM_passing (0 : Int32) vM_taped vM_leaked vM_keptAll vM_offAll vM_up vM_down vM_sharesUp vM_sharesDown vM_onUp vM_onDown vM_great vM_triedOff vM_triedLeaked vM_triedKept vM_fitting vM_firstSet vM_inAll vM_inAny vM_at vM_sort vM_from vM_value vM_fault) := hD
    refine lv_iload_n hx hb dX8_tear_18 rfl (lv_at hl 0 rfl) ?_
    obtain rfl := Option.some.inj h
    exact hret _ _ _ _ _ hP hD hS dX8_tear_19 rfl rfl
  · have h := br_neg c1 h
    refine lv_iconst (v := 1) hx hb dX8_tear_7 (by decide) ?_
    refine lv_goto (tgt := 12) hx hb dX8_tear_8 (by decide) ?_
    refine lv_istore_n (lv' := [(1, .int (1 : Int32)), (0, .ref aM)]) hx hb dX8_tear_12 rfl hl (by decide) rfl (fun ls hl => ?_)
    refine lv_aload_n hx hb dX8_tear_13 rfl (lv_at hl 1 rfl) ?_
    refine lv_iconst (v := 0) hx hb dX8_tear_14 (by decide) ?_
    refine va_put (D := D) (ci := 7) (v := .int (0 : Int32)) (ty := .boolean) (C := RX8) (T := TX8) (N := 43) hx hb hts in_X8 tyX8 tyX8_ok nmX8 hown hK hP hD hS 0 rfl rfl 4 (by decide) q1 (fun _ h9 => h9) rfl (by decide +kernel) (nz_of (Or.inl rfl)) (fz_of (Or.inl rfl)) (Nat.le_of_ble_eq_true rfl) dX8_tear_15 (fun H locs hP hD hS => ?_)
    have hP : va_P D vwCl (w_X8_tear cyI cyJ cyZ cyB cyO aM aM_d aM_e aM_f aM_kept aM_found aM_tape aM_came aM_got aM_held aM_off aM_comesUp aM_comesDown aM_path aM_gets aM_gotNow aM_bitsOf aM_sizeOf aM_number aM_passing (0 : Int32) vM_taped vM_leaked vM_keptAll vM_offAll vM_up vM_down vM_sharesUp vM_sharesDown vM_onUp vM_onDown vM_great vM_triedOff vM_triedLeaked vM_triedKept vM_fitting vM_firstSet vM_inAll vM_inAny vM_at vM_sort vM_from vM_value vM_fault) H := hP
    have hD : va_D A (w_X8_tear cyI cyJ cyZ cyB cyO aM aM_d aM_e aM_f aM_kept aM_found aM_tape aM_came aM_got aM_held aM_off aM_comesUp aM_comesDown aM_path aM_gets aM_gotNow aM_bitsOf aM_sizeOf aM_number aM_passing (0 : Int32) vM_taped vM_leaked vM_keptAll vM_offAll vM_up vM_down vM_sharesUp vM_sharesDown vM_onUp vM_onDown vM_great vM_triedOff vM_triedLeaked vM_triedKept vM_fitting vM_firstSet vM_inAll vM_inAny vM_at vM_sort vM_from vM_value vM_fault) := hD
    refine lv_iload_n hx hb dX8_tear_18 rfl (lv_at hl 0 rfl) ?_
    obtain rfl := Option.some.inj h
    exact hret _ _ _ _ _ hP hD hS dX8_tear_19 rfl rfl
/-! ===== X8_holding ===== -/
def w_X8_holding (cyI cyJ cyZ cyB cyO : ClassId) (aM aM_d aM_e aM_f aM_kept aM_found aM_tape aM_came aM_got aM_held aM_off aM_comesUp aM_comesDown aM_path aM_gets aM_gotNow aM_bitsOf aM_sizeOf aM_number aM_passing : Nat) (vM_isKept : Int32) (vM_taped : Int32) (vM_leaked : Int32) (vM_keptAll : Int32) (vM_offAll : Int32) (vM_up : Int64) (vM_down : Int64) (vM_sharesUp : Int64) (vM_sharesDown : Int64) (vM_onUp : Int64) (vM_onDown : Int64) (vM_great : Int32) (vM_triedOff : Int32) (vM_triedLeaked : Int32) (vM_triedKept : Int32) (vM_fitting : Int32) (vM_firstSet : Int32) (vM_inAll : Int32) (vM_inAny : Int32) (vM_at : Int32) (vM_sort : Int32) (vM_from : Int32) (vM_value : Int64) (vM_fault : Int32) (cM_d : Nat → Int32) : va_W := [(aM, .inr (7, [.ref aM_d, .ref aM_e, .ref aM_f, .ref aM_kept, .int vM_isKept, .ref aM_found, .ref aM_tape, .int vM_taped, .ref aM_came, .ref aM_got, .ref aM_held, .ref aM_off, .int vM_leaked, .int vM_keptAll, .int vM_offAll, .ref aM_comesUp, .ref aM_comesDown, .long vM_up, .long vM_down, .long vM_sharesUp, .long vM_sharesDown, .long vM_onUp, .long vM_onDown, .int vM_great, .ref aM_path, .ref aM_gets, .int vM_triedOff, .int vM_triedLeaked, .int vM_triedKept, .ref aM_gotNow, .int vM_fitting, .int vM_firstSet, .int vM_inAll, .int vM_inAny, .int vM_at, .int vM_sort, .int vM_from, .long vM_value, .int vM_fault, .ref aM_bitsOf, .ref aM_sizeOf, .ref aM_number, .ref aM_passing])), (aM_d, .inl (cyI, 64, .inl cM_d))]
set_option maxHeartbeats 4000000 in
set_option maxRecDepth 100000 in
theorem t_X8_holding (l : Launch) (D : va_G) (cyI cyJ cyZ cyB cyO : ClassId) (aM aM_d aM_e aM_f aM_kept aM_found aM_tape aM_came aM_got aM_held aM_off aM_comesUp aM_comesDown aM_path aM_gets aM_gotNow aM_bitsOf aM_sizeOf aM_number aM_passing : Nat) (vM_isKept : Int32) (vM_taped : Int32) (vM_leaked : Int32) (vM_keptAll : Int32) (vM_offAll : Int32) (vM_up : Int64) (vM_down : Int64) (vM_sharesUp : Int64) (vM_sharesDown : Int64) (vM_onUp : Int64) (vM_onDown : Int64) (vM_great : Int32) (vM_triedOff : Int32) (vM_triedLeaked : Int32) (vM_triedKept : Int32) (vM_fitting : Int32) (vM_firstSet : Int32) (vM_inAll : Int32) (vM_inAny : Int32) (vM_at : Int32) (vM_sort : Int32) (vM_from : Int32) (vM_value : Int64) (vM_fault : Int32) (cM_d : Nat → Int32) (out : Int32) (h : f_X8_holding cM_d = some out) : Mi l yX8_holding wsX8_holding ({ frames := 0, cells := 0, slots := 0, locals := 0 } : Room) D (tyA cyI cyJ cyZ cyB cyO) [.ref aM] (w_X8_holding cyI cyJ cyZ cyB cyO aM aM_d aM_e aM_f aM_kept aM_found aM_tape aM_came aM_got aM_held aM_off aM_comesUp aM_comesDown aM_path aM_gets aM_gotNow aM_bitsOf aM_sizeOf aM_number aM_passing vM_isKept vM_taped vM_leaked vM_keptAll vM_offAll vM_up vM_down vM_sharesUp vM_sharesDown vM_onUp vM_onDown vM_great vM_triedOff vM_triedLeaked vM_triedKept vM_fitting vM_firstSet vM_inAll vM_inAny vM_at vM_sort vM_from vM_value vM_fault cM_d) (w_X8_holding cyI cyJ cyZ cyB cyO aM aM_d aM_e aM_f aM_kept aM_found aM_tape aM_came aM_got aM_held aM_off aM_comesUp aM_comesDown aM_path aM_gets aM_gotNow aM_bitsOf aM_sizeOf aM_number aM_passing vM_isKept vM_taped vM_leaked vM_keptAll vM_offAll vM_up vM_down vM_sharesUp vM_sharesDown vM_onUp vM_onDown vM_great vM_triedOff vM_triedLeaked vM_triedKept vM_fitting vM_firstSet vM_inAll vM_inAny vM_at vM_sort vM_from vM_value vM_fault cM_d) out := by
  refine Mi.mk (cc := cX8_holding) (maxL := 3) (rt := .int) (own := RX8) (by decide) rfl rfl (Nat.le_of_ble_eq_true rfl) ?_
  intro p e s m args below meth c A Q F hK hP hD hA hret ls hl
  obtain ⟨hx, hb, hml, hown, hts⟩ := id F
  have hS : va_S A s.heap s.heap [] := va_S.rf
  have hl : lv_has ls 3 [(0, .ref aM)] := hl
  have in_X8 : ∀ w ∈ wsX80, w ∈ wsX8_holding := by decide +kernel
  have q1 := hts (Cond.fieldLink RX8 7 "ThirdFountainModel" "d" "[I") (List.mem_of_getElem? (i := 1) rfl)
  unfold f_X8_holding at h
  refine lv_iconst (v := 0) hx hb dX8_holding_0 (by decide) ?_
  refine lv_istore_n (lv' := [(1, .int (0 : Int32)), (0, .ref aM)]) hx hb dX8_holding_1 rfl hl (by decide) rfl (fun ls hl => ?_)
  refine lv_iconst (v := 0) hx hb dX8_holding_2 (by decide) ?_
  refine lv_istore_n (lv' := [(2, .int (0 : Int32)), (1, .int (0 : Int32)), (0, .ref aM)]) hx hb dX8_holding_3 rfl hl (by decide) rfl (fun ls hl => ?_)
  have lp4 : ∀ (k4 : Nat) (y1 : Int32) (y2 : Int32) (H : Heap) (locs : List Loc) (ls : Array Slot), va_P D vwCl (w_X8_holding cyI cyJ cyZ cyB cyO aM aM_d aM_e aM_f aM_kept aM_found aM_tape aM_came aM_got aM_held aM_off aM_comesUp aM_comesDown aM_path aM_gets aM_gotNow aM_bitsOf aM_sizeOf aM_number aM_passing vM_isKept vM_taped vM_leaked vM_keptAll vM_offAll vM_up vM_down vM_sharesUp vM_sharesDown vM_onUp vM_onDown vM_great vM_triedOff vM_triedLeaked vM_triedKept vM_fitting vM_firstSet vM_inAll vM_inAny vM_at vM_sort vM_from vM_value vM_fault cM_d) H → va_D A (w_X8_holding cyI cyJ cyZ cyB cyO aM aM_d aM_e aM_f aM_kept aM_found aM_tape aM_came aM_got aM_held aM_off aM_comesUp aM_comesDown aM_path aM_gets aM_gotNow aM_bitsOf aM_sizeOf aM_number aM_passing vM_isKept vM_taped vM_leaked vM_keptAll vM_offAll vM_up vM_down vM_sharesUp vM_sharesDown vM_onUp vM_onDown vM_great vM_triedOff vM_triedLeaked vM_triedKept vM_fitting vM_firstSet vM_inAll vM_inAny vM_at vM_sort vM_from vM_value vM_fault cM_d) → va_S A s.heap H locs → lv_has ls 3 [(1, .int y1), (2, .int y2), (0, .ref aM)] → (f_X8_holding_L4 cM_d k4) (y1, y2) = some out → W p l e ({ frames := 0, cells := 0, slots := 0, locals := 0 } : Room) s m args below meth c H locs 0 0 Q (F0 m 4 ls []) := by
    intro k4
    induction k4 with
    | zero => intro y1 y2 H locs ls hP hD hS hl h; cases h
    | succ k4 ih4 =>
      intro y1 y2 H locs ls hP hD hS hl h
      have h : f_X8_holding_L4_b cM_d (f_X8_holding_L4 cM_d k4) y1 y2 = some out := h
      unfold f_X8_holding_L4_b at h
      refine lv_iload_n hx hb dX8_holding_4 rfl (lv_at hl 1 rfl) ?_
      refine lv_bipush (v := 10) hx hb dX8_holding_5 (by decide) ?_
      refine lv_icmp_ge (tgt := 36) hx hb dX8_holding_7 (by decide) (fun c1 => ?_) (fun c1 => ?_)
      · have h := br_pos c1 h
        refine lv_iload_n hx hb dX8_holding_36 rfl (lv_at hl 0 rfl) ?_
        obtain rfl := Option.some.inj h
        exact hret _ _ _ _ _ hP hD hS dX8_holding_37 rfl rfl
      · have h := br_neg c1 h
        refine lv_iload_n hx hb dX8_holding_10 rfl (lv_at hl 0 rfl) ?_
        refine lv_aload_n hx hb dX8_holding_11 rfl (lv_at hl 2 rfl) ?_
        refine va_get (D := D) (ci := 7) (v := .ref aM_d) (C := RX8) (T := TX8) (N := 43) hx hb hts in_X8 hown hK hP 0 rfl rfl 0 (by decide) q1 (fun _ h9 => h9) rfl dX8_holding_12 ?_
        refine lv_bipush (v := 54) hx hb dX8_holding_15 (by decide) ?_
        refine lv_iload_n hx hb dX8_holding_17 rfl (lv_at hl 1 rfl) ?_
        refine lv_iadd hx hb dX8_holding_18 ?_
        obtain ⟨g2, h⟩ := gd_some h
        refine va_iald hx hb hK hP 1 0 rfl rfl g2 dX8_holding_19 ?_
        refine lv_if_le (tgt := 27) hx hb dX8_holding_20 (by decide) (fun c3 => ?_) (fun c3 => ?_)
        · have h := br_pos c3 h
          refine lv_iconst (v := 0) hx hb dX8_holding_27 (by decide) ?_
          refine lv_iadd hx hb dX8_holding_28 ?_
          refine lv_topi (fun z4 ez4 => ?_)
          have h := nm_at ez4 h
          refine lv_istore_n (lv' := [(1, .int z4), (2, .int y2), (0, .ref aM)]) hx hb dX8_holding_29 rfl hl (by decide) rfl (fun ls hl => ?_)
          refine lv_iinc (v := y2 + 1) (lv' := [(2, .int (y2 + 1)), (1, .int z4), (0, .ref aM)]) hx hb dX8_holding_30 hl (k := 1) rfl rfl (by decide) rfl (fun ls hl => ?_)
          refine lv_goto (tgt := 4) hx hb dX8_holding_33 (by decide) ?_
          exact ih4 z4 (y2 + 1) _ _ _ hP hD hS (lv_sub hl [1, 0, 2] rfl) h
        · have h := br_neg c3 h
          refine lv_iconst (v := 1) hx hb dX8_holding_23 (by decide) ?_
          refine lv_goto (tgt := 28) hx hb dX8_holding_24 (by decide) ?_
          refine lv_iadd hx hb dX8_holding_28 ?_
          refine lv_topi (fun z5 ez5 => ?_)
          have h := nm_at ez5 h
          refine lv_istore_n (lv' := [(1, .int z5), (2, .int y2), (0, .ref aM)]) hx hb dX8_holding_29 rfl hl (by decide) rfl (fun ls hl => ?_)
          refine lv_iinc (v := y2 + 1) (lv' := [(2, .int (y2 + 1)), (1, .int z5), (0, .ref aM)]) hx hb dX8_holding_30 hl (k := 1) rfl rfl (by decide) rfl (fun ls hl => ?_)
          refine lv_goto (tgt := 4) hx hb dX8_holding_33 (by decide) ?_
          exact ih4 z5 (y2 + 1) _ _ _ hP hD hS (lv_sub hl [1, 0, 2] rfl) h
  exact lp4 FU (0 : Int32) (0 : Int32) _ _ _ hP hD hS (lv_sub hl [1, 0, 2] rfl) h
/-! ===== X8_count ===== -/
def w_X8_count (cyI cyJ cyZ cyB cyO : ClassId) (aM aM_d aM_found aM_e aM_f aM_kept aM_tape aM_came aM_got aM_held aM_off aM_comesUp aM_comesDown aM_path aM_gets aM_gotNow aM_bitsOf aM_sizeOf aM_number aM_passing : Nat) (vM_isKept : Int32) (vM_taped : Int32) (vM_leaked : Int32) (vM_keptAll : Int32) (vM_offAll : Int32) (vM_up : Int64) (vM_down : Int64) (vM_sharesUp : Int64) (vM_sharesDown : Int64) (vM_onUp : Int64) (vM_onDown : Int64) (vM_great : Int32) (vM_triedOff : Int32) (vM_triedLeaked : Int32) (vM_triedKept : Int32) (vM_fitting : Int32) (vM_firstSet : Int32) (vM_inAll : Int32) (vM_inAny : Int32) (vM_at : Int32) (vM_sort : Int32) (vM_from : Int32) (vM_value : Int64) (vM_fault : Int32) (cM_d : Nat → Int32) (cM_found : Nat → Int32) : va_W := [(aM, .inr (7, [.ref aM_d, .ref aM_e, .ref aM_f, .ref aM_kept, .int vM_isKept, .ref aM_found, .ref aM_tape, .int vM_taped, .ref aM_came, .ref aM_got, .ref aM_held, .ref aM_off, .int vM_leaked, .int vM_keptAll, .int vM_offAll, .ref aM_comesUp, .ref aM_comesDown, .long vM_up, .long vM_down, .long vM_sharesUp, .long vM_sharesDown, .long vM_onUp, .long vM_onDown, .int vM_great, .ref aM_path, .ref aM_gets, .int vM_triedOff, .int vM_triedLeaked, .int vM_triedKept, .ref aM_gotNow, .int vM_fitting, .int vM_firstSet, .int vM_inAll, .int vM_inAny, .int vM_at, .int vM_sort, .int vM_from, .long vM_value, .int vM_fault, .ref aM_bitsOf, .ref aM_sizeOf, .ref aM_number, .ref aM_passing])), (aM_d, .inl (cyI, 64, .inl cM_d)), (aM_found, .inl (cyI, 7, .inl cM_found))]
set_option maxHeartbeats 4000000 in
set_option maxRecDepth 100000 in
theorem t_X8_count (l : Launch) (D : va_G) (cyI cyJ cyZ cyB cyO : ClassId) (aM aM_d aM_found aM_e aM_f aM_kept aM_tape aM_came aM_got aM_held aM_off aM_comesUp aM_comesDown aM_path aM_gets aM_gotNow aM_bitsOf aM_sizeOf aM_number aM_passing : Nat) (vM_isKept : Int32) (vM_taped : Int32) (vM_leaked : Int32) (vM_keptAll : Int32) (vM_offAll : Int32) (vM_up : Int64) (vM_down : Int64) (vM_sharesUp : Int64) (vM_sharesDown : Int64) (vM_onUp : Int64) (vM_onDown : Int64) (vM_great : Int32) (vM_triedOff : Int32) (vM_triedLeaked : Int32) (vM_triedKept : Int32) (vM_fitting : Int32) (vM_firstSet : Int32) (vM_inAll : Int32) (vM_inAny : Int32) (vM_at : Int32) (vM_sort : Int32) (vM_from : Int32) (vM_value : Int64) (vM_fault : Int32) (cM_d : Nat → Int32) (cM_found : Nat → Int32) (x1 : Int32) (out : Int32 × (Nat → Int32)) (h : f_X8_count x1 vM_taped cM_d cM_found = some out) : Mi l yX8_count wsX8_count ({ frames := 2, cells := 0, slots := 0, locals := 45 } : Room) D (tyA cyI cyJ cyZ cyB cyO) [.ref aM, .int x1] (w_X8_count cyI cyJ cyZ cyB cyO aM aM_d aM_found aM_e aM_f aM_kept aM_tape aM_came aM_got aM_held aM_off aM_comesUp aM_comesDown aM_path aM_gets aM_gotNow aM_bitsOf aM_sizeOf aM_number aM_passing vM_isKept vM_taped vM_leaked vM_keptAll vM_offAll vM_up vM_down vM_sharesUp vM_sharesDown vM_onUp vM_onDown vM_great vM_triedOff vM_triedLeaked vM_triedKept vM_fitting vM_firstSet vM_inAll vM_inAny vM_at vM_sort vM_from vM_value vM_fault cM_d cM_found) (w_X8_count cyI cyJ cyZ cyB cyO aM aM_d aM_found aM_e aM_f aM_kept aM_tape aM_came aM_got aM_held aM_off aM_comesUp aM_comesDown aM_path aM_gets aM_gotNow aM_bitsOf aM_sizeOf aM_number aM_passing vM_isKept vM_taped vM_leaked vM_keptAll vM_offAll vM_up vM_down vM_sharesUp vM_sharesDown vM_onUp vM_onDown vM_great vM_triedOff vM_triedLeaked vM_triedKept vM_fitting vM_firstSet vM_inAll vM_inAny vM_at vM_sort vM_from vM_value vM_fault cM_d out.2) out.1 := by
  refine Mi.mk (cc := cX8_count) (maxL := 2) (rt := .int) (own := RX8) (by decide) rfl rfl (Nat.le_of_ble_eq_true rfl) ?_
  intro p e s m args below meth c A Q F hK hP hD hA hret ls hl
  obtain ⟨hx, hb, hml, hown, hts⟩ := id F
  have hS : va_S A s.heap s.heap [] := va_S.rf
  have hl : lv_has ls 2 [(0, .ref aM), (1, .int x1)] := hl
  have in_X8 : ∀ w ∈ wsX80, w ∈ wsX8_count := by decide +kernel
  have q1 := hts (Cond.fieldLink RX8 7 "ThirdFountainModel" "d" "[I") (List.mem_of_getElem? (i := 1) rfl)
  have q3 := hts (Cond.methodLink RX8 212 yX8_sumOf) (List.mem_of_getElem? (i := 3) rfl)
  have q2 := hts (Cond.fieldLink RX8 276 "ThirdFountainModel" "taped" "I") (List.mem_of_getElem? (i := 2) rfl)
  have q12 := hts (Cond.methodLink RX8 365 yX8_holding) (List.mem_of_getElem? (i := 12) rfl)
  have q16 := hts (Cond.methodLink RX8 115 yX8_finds) (List.mem_of_getElem? (i := 16) rfl)
  unfold f_X8_count at h
  refine lv_iload_n hx hb dX8_count_0 rfl (lv_at hl 1 rfl) ?_
  by_cases c1 : x1 = 0
  · have h := br_pos c1 h
    refine lv_tableIn (off := 47) (tgt := 48) hx hb dX8_count_1 (by rw [c1]; decide) (by rw [c1]; decide) (by rw [c1]; rfl) (by decide) ?_
    refine lv_aload_n hx hb dX8_count_48 rfl (lv_at hl 0 rfl) ?_
    refine va_get (D := D) (ci := 7) (v := .ref aM_d) (C := RX8) (T := TX8) (N := 43) hx hb hts in_X8 hown hK hP 0 rfl rfl 0 (by decide) q1 (fun _ h9 => h9) rfl dX8_count_49 ?_
    refine lv_iconst (v := 1) hx hb dX8_count_52 (by decide) ?_
    refine va_iald hx hb hK hP 1 0 rfl rfl (by unfold vp_in; decide) dX8_count_53 ?_
    obtain rfl := Option.some.inj h
    exact hret _ _ _ _ _ hP hD hS dX8_count_54 rfl rfl
  have h := br_neg c1 h
  by_cases c2 : x1 = 1
  · have h := br_pos c2 h
    refine lv_tableIn (off := 54) (tgt := 55) hx hb dX8_count_1 (by rw [c2]; decide) (by rw [c2]; decide) (by rw [c2]; rfl) (by decide) ?_
    refine lv_aload_n hx hb dX8_count_55 rfl (lv_at hl 0 rfl) ?_
    refine va_get (D := D) (ci := 7) (v := .ref aM_d) (C := RX8) (T := TX8) (N := 43) hx hb hts in_X8 hown hK hP 0 rfl rfl 0 (by decide) q1 (fun _ h9 => h9) rfl dX8_count_56 ?_
    refine lv_iconst (v := 0) hx hb dX8_count_59 (by decide) ?_
    refine va_iald hx hb hK hP 1 0 rfl rfl (by unfold vp_in; decide) dX8_count_60 ?_
    obtain rfl := Option.some.inj h
    exact hret _ _ _ _ _ hP hD hS dX8_count_61 rfl rfl
  have h := br_neg c2 h
  by_cases c3 : x1 = 2
  · have h := br_pos c3 h
    refine lv_tableIn (off := 61) (tgt := 62) hx hb dX8_count_1 (by rw [c3]; decide) (by rw [c3]; decide) (by rw [c3]; rfl) (by decide) ?_
    refine lv_aload_n hx hb dX8_count_62 rfl (lv_at hl 0 rfl) ?_
    refine lv_iconst (v := 2) hx hb dX8_count_63 (by decide) ?_
    obtain ⟨u9, hu9, h⟩ := bd_some h
    refine cl_Vi (rest := []) F hK hP hD hS hA hl (t_X8_sumOf l D cyI cyJ cyZ cyB cyO aM aM_d aM_e aM_f aM_kept aM_found aM_tape aM_came aM_got aM_held aM_off aM_comesUp aM_comesDown aM_path aM_gets aM_gotNow aM_bitsOf aM_sizeOf aM_number aM_passing vM_isKept vM_taped vM_leaked vM_keptAll vM_offAll vM_up vM_down vM_sharesUp vM_sharesDown vM_onUp vM_onDown vM_great vM_triedOff vM_triedLeaked vM_triedKept vM_fitting vM_firstSet vM_inAll vM_inAny vM_at vM_sort vM_from vM_value vM_fault cM_d (2 : Int32) u9 hu9) (cwV 1 hts gX8_count_X8_sumOf rfl rfl rfl (by decide +kernel) ⟨Nat.le_of_ble_eq_true rfl, Nat.le_of_ble_eq_true rfl⟩) 0 [0, 1] [1, 2, 0] [] (w_X8_count cyI cyJ cyZ cyB cyO aM aM_d aM_found aM_e aM_f aM_kept aM_tape aM_came aM_got aM_held aM_off aM_comesUp aM_comesDown aM_path aM_gets aM_gotNow aM_bitsOf aM_sizeOf aM_number aM_passing vM_isKept vM_taped vM_leaked vM_keptAll vM_offAll vM_up vM_down vM_sharesUp vM_sharesDown vM_onUp vM_onDown vM_great vM_triedOff vM_triedLeaked vM_triedKept vM_fitting vM_firstSet vM_inAll vM_inAny vM_at vM_sort vM_from vM_value vM_fault cM_d cM_found) rfl rfl rfl rfl rfl (by decide +kernel) rfl rfl (Nat.le_of_ble_eq_true rfl) ⟨Nat.zero_le _, Nat.zero_le _⟩ dX8_count_64 (fun H locs hP hD hS => ?_)
    obtain rfl := Option.some.inj h
    exact hret _ _ _ _ _ hP hD hS dX8_count_67 rfl rfl
  have h := br_neg c3 h
  by_cases c4 : x1 = 3
  · have h := br_pos c4 h
    refine lv_tableIn (off := 67) (tgt := 68) hx hb dX8_count_1 (by rw [c4]; decide) (by rw [c4]; decide) (by rw [c4]; rfl) (by decide) ?_
    refine lv_aload_n hx hb dX8_count_68 rfl (lv_at hl 0 rfl) ?_
    refine lv_iconst (v := 3) hx hb dX8_count_69 (by decide) ?_
    obtain ⟨u10, hu10, h⟩ := bd_some h
    refine cl_Vi (rest := []) F hK hP hD hS hA hl (t_X8_sumOf l D cyI cyJ cyZ cyB cyO aM aM_d aM_e aM_f aM_kept aM_found aM_tape aM_came aM_got aM_held aM_off aM_comesUp aM_comesDown aM_path aM_gets aM_gotNow aM_bitsOf aM_sizeOf aM_number aM_passing vM_isKept vM_taped vM_leaked vM_keptAll vM_offAll vM_up vM_down vM_sharesUp vM_sharesDown vM_onUp vM_onDown vM_great vM_triedOff vM_triedLeaked vM_triedKept vM_fitting vM_firstSet vM_inAll vM_inAny vM_at vM_sort vM_from vM_value vM_fault cM_d (3 : Int32) u10 hu10) (cwV 1 hts gX8_count_X8_sumOf rfl rfl rfl (by decide +kernel) ⟨Nat.le_of_ble_eq_true rfl, Nat.le_of_ble_eq_true rfl⟩) 0 [0, 1] [1, 2, 0] [] (w_X8_count cyI cyJ cyZ cyB cyO aM aM_d aM_found aM_e aM_f aM_kept aM_tape aM_came aM_got aM_held aM_off aM_comesUp aM_comesDown aM_path aM_gets aM_gotNow aM_bitsOf aM_sizeOf aM_number aM_passing vM_isKept vM_taped vM_leaked vM_keptAll vM_offAll vM_up vM_down vM_sharesUp vM_sharesDown vM_onUp vM_onDown vM_great vM_triedOff vM_triedLeaked vM_triedKept vM_fitting vM_firstSet vM_inAll vM_inAny vM_at vM_sort vM_from vM_value vM_fault cM_d cM_found) rfl rfl rfl rfl rfl (by decide +kernel) rfl rfl (Nat.le_of_ble_eq_true rfl) ⟨Nat.zero_le _, Nat.zero_le _⟩ dX8_count_70 (fun H locs hP hD hS => ?_)
    obtain rfl := Option.some.inj h
    exact hret _ _ _ _ _ hP hD hS dX8_count_73 rfl rfl
  have h := br_neg c4 h
  by_cases c5 : x1 = 4
  · have h := br_pos c5 h
    refine lv_tableIn (off := 73) (tgt := 74) hx hb dX8_count_1 (by rw [c5]; decide) (by rw [c5]; decide) (by rw [c5]; rfl) (by decide) ?_
    refine lv_aload_n hx hb dX8_count_74 rfl (lv_at hl 0 rfl) ?_
    refine va_get (D := D) (ci := 7) (v := .ref aM_d) (C := RX8) (T := TX8) (N := 43) hx hb hts in_X8 hown hK hP 0 rfl rfl 0 (by decide) q1 (fun _ h9 => h9) rfl dX8_count_75 ?_
    refine lv_iconst (v := 3) hx hb dX8_count_78 (by decide) ?_
    refine va_iald hx hb hK hP 1 0 rfl rfl (by unfold vp_in; decide) dX8_count_79 ?_
    obtain rfl := Option.some.inj h
    exact hret _ _ _ _ _ hP hD hS dX8_count_80 rfl rfl
  have h := br_neg c5 h
  by_cases c6 : x1 = 5
  · have h := br_pos c6 h
    refine lv_tableIn (off := 80) (tgt := 81) hx hb dX8_count_1 (by rw [c6]; decide) (by rw [c6]; decide) (by rw [c6]; rfl) (by decide) ?_
    refine lv_aload_n hx hb dX8_count_81 rfl (lv_at hl 0 rfl) ?_
    refine va_get (D := D) (ci := 7) (v := .int vM_taped) (C := RX8) (T := TX8) (N := 43) hx hb hts in_X8 hown hK hP 0 rfl rfl 7 (by decide) q2 (fun _ h9 => h9) rfl dX8_count_82 ?_
    obtain rfl := Option.some.inj h
    exact hret _ _ _ _ _ hP hD hS dX8_count_85 rfl rfl
  have h := br_neg c6 h
  by_cases c7 : x1 = 6
  · have h := br_pos c7 h
    refine lv_tableIn (off := 85) (tgt := 86) hx hb dX8_count_1 (by rw [c7]; decide) (by rw [c7]; decide) (by rw [c7]; rfl) (by decide) ?_
    refine lv_aload_n hx hb dX8_count_86 rfl (lv_at hl 0 rfl) ?_
    refine va_get (D := D) (ci := 7) (v := .ref aM_d) (C := RX8) (T := TX8) (N := 43) hx hb hts in_X8 hown hK hP 0 rfl rfl 0 (by decide) q1 (fun _ h9 => h9) rfl dX8_count_87 ?_
    refine lv_iconst (v := 2) hx hb dX8_count_90 (by decide) ?_
    refine va_iald hx hb hK hP 1 0 rfl rfl (by unfold vp_in; decide) dX8_count_91 ?_
    obtain rfl := Option.some.inj h
    exact hret _ _ _ _ _ hP hD hS dX8_count_92 rfl rfl
  have h := br_neg c7 h
  by_cases c8 : x1 = 7
  · have h := br_pos c8 h
    refine lv_tableIn (off := 92) (tgt := 93) hx hb dX8_count_1 (by rw [c8]; decide) (by rw [c8]; decide) (by rw [c8]; rfl) (by decide) ?_
    refine lv_aload_n hx hb dX8_count_93 rfl (lv_at hl 0 rfl) ?_
    obtain ⟨u11, hu11, h⟩ := bd_some h
    refine cl_Vi (rest := []) F hK hP hD hS hA hl (t_X8_holding l D cyI cyJ cyZ cyB cyO aM aM_d aM_e aM_f aM_kept aM_found aM_tape aM_came aM_got aM_held aM_off aM_comesUp aM_comesDown aM_path aM_gets aM_gotNow aM_bitsOf aM_sizeOf aM_number aM_passing vM_isKept vM_taped vM_leaked vM_keptAll vM_offAll vM_up vM_down vM_sharesUp vM_sharesDown vM_onUp vM_onDown vM_great vM_triedOff vM_triedLeaked vM_triedKept vM_fitting vM_firstSet vM_inAll vM_inAny vM_at vM_sort vM_from vM_value vM_fault cM_d u11 hu11) (cwV 0 hts gX8_count_X8_holding rfl rfl rfl (by decide +kernel) ⟨Nat.le_of_ble_eq_true rfl, Nat.le_of_ble_eq_true rfl⟩) 0 [0, 1] [1, 2, 0] [] (w_X8_count cyI cyJ cyZ cyB cyO aM aM_d aM_found aM_e aM_f aM_kept aM_tape aM_came aM_got aM_held aM_off aM_comesUp aM_comesDown aM_path aM_gets aM_gotNow aM_bitsOf aM_sizeOf aM_number aM_passing vM_isKept vM_taped vM_leaked vM_keptAll vM_offAll vM_up vM_down vM_sharesUp vM_sharesDown vM_onUp vM_onDown vM_great vM_triedOff vM_triedLeaked vM_triedKept vM_fitting vM_firstSet vM_inAll vM_inAny vM_at vM_sort vM_from vM_value vM_fault cM_d cM_found) rfl rfl rfl rfl rfl (by decide +kernel) rfl rfl (Nat.le_of_ble_eq_true rfl) ⟨Nat.zero_le _, Nat.zero_le _⟩ dX8_count_94 (fun H locs hP hD hS => ?_)
    obtain rfl := Option.some.inj h
    exact hret _ _ _ _ _ hP hD hS dX8_count_97 rfl rfl
  have h := br_neg c8 h
  refine lv_tableOut (tgt := 98) hx hb dX8_count_1 (sw_c c1 (sw_c c2 (sw_c c3 (sw_c c4 (sw_c c5 (sw_c c6 (sw_c c7 (sw_c c8 (sw_n (by decide)))))))))) (by decide) ?_
  refine lv_aload_n hx hb dX8_count_98 rfl (lv_at hl 0 rfl) ?_
  refine lv_iconst (v := 0) hx hb dX8_count_99 (by decide) ?_
  obtain ⟨u12, hu12, h⟩ := bd_some h
  refine cl_Vi (rest := []) F hK hP hD hS hA hl (t_X8_finds l D cyI cyJ cyZ cyB cyO aM aM_found aM_d aM_e aM_f aM_kept aM_tape aM_came aM_got aM_held aM_off aM_comesUp aM_comesDown aM_path aM_gets aM_gotNow aM_bitsOf aM_sizeOf aM_number aM_passing vM_isKept vM_taped vM_leaked vM_keptAll vM_offAll vM_up vM_down vM_sharesUp vM_sharesDown vM_onUp vM_onDown vM_great vM_triedOff vM_triedLeaked vM_triedKept vM_fitting vM_firstSet vM_inAll vM_inAny vM_at vM_sort vM_from vM_value vM_fault cM_found (0 : Int32) u12 hu12) (cwV 1 hts gX8_count_X8_finds rfl rfl rfl (by decide +kernel) ⟨Nat.le_of_ble_eq_true rfl, Nat.le_of_ble_eq_true rfl⟩) 0 [0, 2] [1, 0, 2] [] (w_X8_count cyI cyJ cyZ cyB cyO aM aM_d aM_found aM_e aM_f aM_kept aM_tape aM_came aM_got aM_held aM_off aM_comesUp aM_comesDown aM_path aM_gets aM_gotNow aM_bitsOf aM_sizeOf aM_number aM_passing vM_isKept vM_taped vM_leaked vM_keptAll vM_offAll vM_up vM_down vM_sharesUp vM_sharesDown vM_onUp vM_onDown vM_great vM_triedOff vM_triedLeaked vM_triedKept vM_fitting vM_firstSet vM_inAll vM_inAny vM_at vM_sort vM_from vM_value vM_fault cM_d u12.2) rfl rfl rfl rfl rfl (by decide +kernel) rfl rfl (Nat.le_of_ble_eq_true rfl) ⟨Nat.zero_le _, Nat.zero_le _⟩ dX8_count_100 (fun H locs hP hD hS => ?_)
  obtain rfl := Option.some.inj h
  exact hret _ _ _ _ _ hP hD hS dX8_count_103 rfl rfl
/-! ===== X8_status ===== -/
def w_X8_status (cyI cyJ cyZ cyB cyO : ClassId) (aM aM_found aM_d aM_e aM_f aM_kept aM_tape aM_came aM_got aM_held aM_off aM_comesUp aM_comesDown aM_path aM_gets aM_gotNow aM_bitsOf aM_sizeOf aM_number aM_passing : Nat) (vM_isKept : Int32) (vM_taped : Int32) (vM_leaked : Int32) (vM_keptAll : Int32) (vM_offAll : Int32) (vM_up : Int64) (vM_down : Int64) (vM_sharesUp : Int64) (vM_sharesDown : Int64) (vM_onUp : Int64) (vM_onDown : Int64) (vM_great : Int32) (vM_triedOff : Int32) (vM_triedLeaked : Int32) (vM_triedKept : Int32) (vM_fitting : Int32) (vM_firstSet : Int32) (vM_inAll : Int32) (vM_inAny : Int32) (vM_at : Int32) (vM_sort : Int32) (vM_from : Int32) (vM_value : Int64) (vM_fault : Int32) (cM_found : Nat → Int32) : va_W := [(aM, .inr (7, [.ref aM_d, .ref aM_e, .ref aM_f, .ref aM_kept, .int vM_isKept, .ref aM_found, .ref aM_tape, .int vM_taped, .ref aM_came, .ref aM_got, .ref aM_held, .ref aM_off, .int vM_leaked, .int vM_keptAll, .int vM_offAll, .ref aM_comesUp, .ref aM_comesDown, .long vM_up, .long vM_down, .long vM_sharesUp, .long vM_sharesDown, .long vM_onUp, .long vM_onDown, .int vM_great, .ref aM_path, .ref aM_gets, .int vM_triedOff, .int vM_triedLeaked, .int vM_triedKept, .ref aM_gotNow, .int vM_fitting, .int vM_firstSet, .int vM_inAll, .int vM_inAny, .int vM_at, .int vM_sort, .int vM_from, .long vM_value, .int vM_fault, .ref aM_bitsOf, .ref aM_sizeOf, .ref aM_number, .ref aM_passing])), (aM_found, .inl (cyI, 7, .inl cM_found))]
set_option maxHeartbeats 4000000 in
set_option maxRecDepth 100000 in
theorem t_X8_status (l : Launch) (D : va_G) (cyI cyJ cyZ cyB cyO : ClassId) (aM aM_found aM_d aM_e aM_f aM_kept aM_tape aM_came aM_got aM_held aM_off aM_comesUp aM_comesDown aM_path aM_gets aM_gotNow aM_bitsOf aM_sizeOf aM_number aM_passing : Nat) (vM_isKept : Int32) (vM_taped : Int32) (vM_leaked : Int32) (vM_keptAll : Int32) (vM_offAll : Int32) (vM_up : Int64) (vM_down : Int64) (vM_sharesUp : Int64) (vM_sharesDown : Int64) (vM_onUp : Int64) (vM_onDown : Int64) (vM_great : Int32) (vM_triedOff : Int32) (vM_triedLeaked : Int32) (vM_triedKept : Int32) (vM_fitting : Int32) (vM_firstSet : Int32) (vM_inAll : Int32) (vM_inAny : Int32) (vM_at : Int32) (vM_sort : Int32) (vM_from : Int32) (vM_value : Int64) (vM_fault : Int32) (cM_found : Nat → Int32) (x1 : Int32) (out : Int32 × (Nat → Int32)) (h : f_X8_status x1 cM_found = some out) : Mi l yX8_status wsX8_status ({ frames := 1, cells := 0, slots := 0, locals := 25 } : Room) D (tyA cyI cyJ cyZ cyB cyO) [.ref aM, .int x1] (w_X8_status cyI cyJ cyZ cyB cyO aM aM_found aM_d aM_e aM_f aM_kept aM_tape aM_came aM_got aM_held aM_off aM_comesUp aM_comesDown aM_path aM_gets aM_gotNow aM_bitsOf aM_sizeOf aM_number aM_passing vM_isKept vM_taped vM_leaked vM_keptAll vM_offAll vM_up vM_down vM_sharesUp vM_sharesDown vM_onUp vM_onDown vM_great vM_triedOff vM_triedLeaked vM_triedKept vM_fitting vM_firstSet vM_inAll vM_inAny vM_at vM_sort vM_from vM_value vM_fault cM_found) (w_X8_status cyI cyJ cyZ cyB cyO aM aM_found aM_d aM_e aM_f aM_kept aM_tape aM_came aM_got aM_held aM_off aM_comesUp aM_comesDown aM_path aM_gets aM_gotNow aM_bitsOf aM_sizeOf aM_number aM_passing vM_isKept vM_taped vM_leaked vM_keptAll vM_offAll vM_up vM_down vM_sharesUp vM_sharesDown vM_onUp vM_onDown vM_great vM_triedOff vM_triedLeaked vM_triedKept vM_fitting vM_firstSet vM_inAll vM_inAny vM_at vM_sort vM_from vM_value vM_fault out.2) out.1 := by
  refine Mi.mk (cc := cX8_status) (maxL := 4) (rt := .int) (own := RX8) (by decide) rfl rfl (Nat.le_of_ble_eq_true rfl) ?_
  intro p e s m args below meth c A Q F hK hP hD hA hret ls hl
  obtain ⟨hx, hb, hml, hown, hts⟩ := id F
  have hS : va_S A s.heap s.heap [] := va_S.rf
  have hl : lv_has ls 4 [(0, .ref aM), (1, .int x1)] := hl
  have in_X8 : ∀ w ∈ wsX80, w ∈ wsX8_status := by decide +kernel
  have q1 := hts (Cond.constantLong RX8 354 (-1)) (List.mem_of_getElem? (i := 1) rfl)
  have q2 := hts (Cond.constantLong RX8 113 (6)) (List.mem_of_getElem? (i := 2) rfl)
  have q4 := hts (Cond.methodLink RX8 70 yX8_in) (List.mem_of_getElem? (i := 4) rfl)
  have q3 := hts (Cond.fieldLink RX8 22 "ThirdFountainModel" "found" "[I") (List.mem_of_getElem? (i := 3) rfl)
  have q8 := hts (Cond.methodLink RX8 115 yX8_finds) (List.mem_of_getElem? (i := 8) rfl)
  unfold f_X8_status at h
  refine lv_iload_n hx hb dX8_status_0 rfl (lv_at hl 1 rfl) ?_
  refine lv_i2l hx hb dX8_status_1 rfl ?_
  refine lv_ldc2 (v := -1) hx hb hown q1 dX8_status_2 ?_
  refine lv_ldc2 (v := 6) hx hb hown q2 dX8_status_5 ?_
  obtain ⟨u1, hu1, h⟩ := bd_some h
  refine cl_Si (rest := []) F hK hP hD hS hA hl (t_X8_in l D cyI cyJ cyZ cyB cyO x1.toInt64 (-1 : Int64) (6 : Int64) u1 hu1) (va_cwS 3 hts gX8_status_X8_in rfl rfl rfl (by decide +kernel) ⟨Nat.le_of_ble_eq_true rfl, Nat.le_of_ble_eq_true rfl⟩) [] [0, 0] [] (w_X8_status cyI cyJ cyZ cyB cyO aM aM_found aM_d aM_e aM_f aM_kept aM_tape aM_came aM_got aM_held aM_off aM_comesUp aM_comesDown aM_path aM_gets aM_gotNow aM_bitsOf aM_sizeOf aM_number aM_passing vM_isKept vM_taped vM_leaked vM_keptAll vM_offAll vM_up vM_down vM_sharesUp vM_sharesDown vM_onUp vM_onDown vM_great vM_triedOff vM_triedLeaked vM_triedKept vM_fitting vM_firstSet vM_inAll vM_inAny vM_at vM_sort vM_from vM_value vM_fault cM_found) rfl rfl rfl (by decide +kernel) rfl rfl (Nat.le_of_ble_eq_true rfl) ⟨Nat.zero_le _, Nat.zero_le _⟩ dX8_status_8 (fun H locs hP hD hS => ?_)
  refine lv_if_ne (tgt := 20) hx hb dX8_status_11 (by decide) (fun c2 => ?_) (fun c2 => ?_)
  · have h := br_neg c2 h
    refine lv_iconst (v := 0) hx hb dX8_status_20 (by decide) ?_
    refine lv_istore_n (lv' := [(2, .int (0 : Int32)), (0, .ref aM), (1, .int x1)]) hx hb dX8_status_21 rfl hl (by decide) rfl (fun ls hl => ?_)
    refine lv_iconst (v := 0) hx hb dX8_status_22 (by decide) ?_
    refine lv_istore_n (lv' := [(3, .int (0 : Int32)), (2, .int (0 : Int32)), (0, .ref aM), (1, .int x1)]) hx hb dX8_status_23 rfl hl (by decide) rfl (fun ls hl => ?_)
    have lp24 : ∀ (k24 : Nat) (y2 : Int32) (y3 : Int32) (cM_found : Nat → Int32) (H : Heap) (locs : List Loc) (ls : Array Slot), va_P D vwCl (w_X8_status cyI cyJ cyZ cyB cyO aM aM_found aM_d aM_e aM_f aM_kept aM_tape aM_came aM_got aM_held aM_off aM_comesUp aM_comesDown aM_path aM_gets aM_gotNow aM_bitsOf aM_sizeOf aM_number aM_passing vM_isKept vM_taped vM_leaked vM_keptAll vM_offAll vM_up vM_down vM_sharesUp vM_sharesDown vM_onUp vM_onDown vM_great vM_triedOff vM_triedLeaked vM_triedKept vM_fitting vM_firstSet vM_inAll vM_inAny vM_at vM_sort vM_from vM_value vM_fault cM_found) H → va_D A (w_X8_status cyI cyJ cyZ cyB cyO aM aM_found aM_d aM_e aM_f aM_kept aM_tape aM_came aM_got aM_held aM_off aM_comesUp aM_comesDown aM_path aM_gets aM_gotNow aM_bitsOf aM_sizeOf aM_number aM_passing vM_isKept vM_taped vM_leaked vM_keptAll vM_offAll vM_up vM_down vM_sharesUp vM_sharesDown vM_onUp vM_onDown vM_great vM_triedOff vM_triedLeaked vM_triedKept vM_fitting vM_firstSet vM_inAll vM_inAny vM_at vM_sort vM_from vM_value vM_fault cM_found) → va_S A s.heap H locs → lv_has ls 4 [(2, .int y2), (3, .int y3), (0, .ref aM), (1, .int x1)] → (f_X8_status_L24 x1 k24) (y2, y3, cM_found) = some out → W p l e ({ frames := 1, cells := 0, slots := 0, locals := 25 } : Room) s m args below meth c H locs 0 0 Q (F0 m 24 ls []) := by
      intro k24
      induction k24 with
      | zero => intro y2 y3 cM_found H locs ls hP hD hS hl h; cases h
      | succ k24 ih24 =>
        intro y2 y3 cM_found H locs ls hP hD hS hl h
        have h : f_X8_status_L24_b x1 (f_X8_status_L24 x1 k24) y2 y3 cM_found = some out := h
        unfold f_X8_status_L24_b at h
        refine lv_iload_n hx hb dX8_status_24 rfl (lv_at hl 1 rfl) ?_
        refine lv_bipush (v := 7) hx hb dX8_status_25 (by decide) ?_
        refine lv_icmp_ge (tgt := 45) hx hb dX8_status_27 (by decide) (fun c3 => ?_) (fun c3 => ?_)
        · have h := br_pos c3 h
          refine lv_iload_n hx hb dX8_status_45 rfl (lv_at hl 3 rfl) ?_
          refine lv_if_ge (tgt := 53) hx hb dX8_status_46 (by decide) (fun c4 => ?_) (fun c4 => ?_)
          · have h := br_pos c4 h
            refine lv_aload_n hx hb dX8_status_53 rfl (lv_at hl 2 rfl) ?_
            refine va_get (D := D) (ci := 7) (v := .ref aM_found) (C := RX8) (T := TX8) (N := 43) hx hb hts in_X8 hown hK hP 0 rfl rfl 5 (by decide) q3 (fun _ h9 => h9) rfl dX8_status_54 ?_
            refine lv_iload_n hx hb dX8_status_57 rfl (lv_at hl 3 rfl) ?_
            obtain ⟨g5, h⟩ := gd_some h
            refine va_iald hx hb hK hP 1 0 rfl rfl g5 dX8_status_58 ?_
            obtain rfl := Option.some.inj h
            exact hret _ _ _ _ _ hP hD hS dX8_status_59 rfl rfl
          · have h := br_neg c4 h
            refine lv_iload_n hx hb dX8_status_49 rfl (lv_at hl 0 rfl) ?_
            refine lv_goto (tgt := 59) hx hb dX8_status_50 (by decide) ?_
            obtain rfl := Option.some.inj h
            exact hret _ _ _ _ _ hP hD hS dX8_status_59 rfl rfl
        · have h := br_neg c3 h
          refine lv_iload_n hx hb dX8_status_30 rfl (lv_at hl 0 rfl) ?_
          refine lv_aload_n hx hb dX8_status_31 rfl (lv_at hl 2 rfl) ?_
          refine va_get (D := D) (ci := 7) (v := .ref aM_found) (C := RX8) (T := TX8) (N := 43) hx hb hts in_X8 hown hK hP 0 rfl rfl 5 (by decide) q3 (fun _ h9 => h9) rfl dX8_status_32 ?_
          refine lv_iload_n hx hb dX8_status_35 rfl (lv_at hl 1 rfl) ?_
          obtain ⟨g6, h⟩ := gd_some h
          refine va_iald hx hb hK hP 1 0 rfl rfl g6 dX8_status_36 ?_
          refine lv_iadd hx hb dX8_status_37 ?_
          refine lv_topi (fun z7 ez7 => ?_)
          have h := nm_at ez7 h
          refine lv_istore_n (lv' := [(2, .int z7), (3, .int y3), (0, .ref aM), (1, .int x1)]) hx hb dX8_status_38 rfl hl (by decide) rfl (fun ls hl => ?_)
          refine lv_iinc (v := y3 + 1) (lv' := [(3, .int (y3 + 1)), (2, .int z7), (0, .ref aM), (1, .int x1)]) hx hb dX8_status_39 hl (k := 1) rfl rfl (by decide) rfl (fun ls hl => ?_)
          refine lv_goto (tgt := 24) hx hb dX8_status_42 (by decide) ?_
          exact ih24 z7 (y3 + 1) cM_found _ _ _ hP hD hS (lv_sub hl [1, 0, 2, 3] rfl) h
    exact lp24 FU (0 : Int32) (0 : Int32) cM_found _ _ _ hP hD hS (lv_sub hl [1, 0, 2, 3] rfl) h
  · have h := br_pos c2 h
    refine lv_aload_n hx hb dX8_status_14 rfl (lv_at hl 0 rfl) ?_
    refine lv_iconst (v := 0) hx hb dX8_status_15 (by decide) ?_
    obtain ⟨u8, hu8, h⟩ := bd_some h
    refine cl_Vi (rest := []) F hK hP hD hS hA hl (t_X8_finds l D cyI cyJ cyZ cyB cyO aM aM_found aM_d aM_e aM_f aM_kept aM_tape aM_came aM_got aM_held aM_off aM_comesUp aM_comesDown aM_path aM_gets aM_gotNow aM_bitsOf aM_sizeOf aM_number aM_passing vM_isKept vM_taped vM_leaked vM_keptAll vM_offAll vM_up vM_down vM_sharesUp vM_sharesDown vM_onUp vM_onDown vM_great vM_triedOff vM_triedLeaked vM_triedKept vM_fitting vM_firstSet vM_inAll vM_inAny vM_at vM_sort vM_from vM_value vM_fault cM_found (0 : Int32) u8 hu8) (cwV 1 hts gX8_status_X8_finds rfl rfl rfl (by decide +kernel) ⟨Nat.le_of_ble_eq_true rfl, Nat.le_of_ble_eq_true rfl⟩) 0 [0, 1] [1, 2] [] (w_X8_status cyI cyJ cyZ cyB cyO aM aM_found aM_d aM_e aM_f aM_kept aM_tape aM_came aM_got aM_held aM_off aM_comesUp aM_comesDown aM_path aM_gets aM_gotNow aM_bitsOf aM_sizeOf aM_number aM_passing vM_isKept vM_taped vM_leaked vM_keptAll vM_offAll vM_up vM_down vM_sharesUp vM_sharesDown vM_onUp vM_onDown vM_great vM_triedOff vM_triedLeaked vM_triedKept vM_fitting vM_firstSet vM_inAll vM_inAny vM_at vM_sort vM_from vM_value vM_fault u8.2) rfl rfl rfl rfl rfl (by decide +kernel) rfl rfl (Nat.le_of_ble_eq_true rfl) ⟨Nat.zero_le _, Nat.zero_le _⟩ dX8_status_16 (fun H locs hP hD hS => ?_)
    obtain rfl := Option.some.inj h
    exact hret _ _ _ _ _ hP hD hS dX8_status_19 rfl rfl
