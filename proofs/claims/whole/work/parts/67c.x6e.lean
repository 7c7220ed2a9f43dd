/-! ===== X6_isWord ===== -/
def w_X6_isWord (cyI cyJ cyZ cyB cyO : ClassId) (aA aA_bytes : Nat) (vA_size : Int32) (vA_token : Int32) (vA_start : Int32) (vA_end : Int32) (vA_number : Int32) (cA_bytes : Nat → Int32) : va_W := [(aA, .inr (5, [.ref aA_bytes, .int vA_size, .int vA_token, .int vA_start, .int vA_end, .int vA_number])), (aA_bytes, .inl (cyI, 120, .inl cA_bytes))]
set_option maxHeartbeats 4000000 in
set_option maxRecDepth 100000 in
theorem t_X6_isWord (l : Launch) (D : va_G) (cyI cyJ cyZ cyB cyO : ClassId) (adK adV : Nat → Nat) (fm : Nat) (aA aA_bytes : Nat) (vA_size : Int32) (vA_token : Int32) (vA_start : Int32) (vA_end : Int32) (vA_number : Int32) (cA_bytes : Nat → Int32) (k1 : Nat) (hk1 : k1 < 10) (out : Int32) (h : f_X6_isWord k1 vA_size vA_token vA_start vA_end cA_bytes = some out) : MiE l yX6_isWord wsX6_isWord ({ frames := 4, cells := 0, slots := 0, locals := 85 } : Room) D (tyA cyI cyJ cyZ cyB cyO) [.ref aA, .ref (adK k1)] (w_X6_isWord cyI cyJ cyZ cyB cyO aA aA_bytes vA_size vA_token vA_start vA_end vA_number cA_bytes) (w_X6_isWord cyI cyJ cyZ cyB cyO aA aA_bytes vA_size vA_token vA_start vA_end vA_number cA_bytes) out adK adV fm := by
  refine MiE.mk (cc := cX6_isWord) (maxL := 3) (rt := .boolean) (own := RX6) (by decide) rfl rfl (Nat.le_of_ble_eq_true rfl) ?_
  intro p e s m args below meth c A Q F hE hK hP hD hA hret ls hl
  obtain ⟨hx, hb, hml, hown, hts⟩ := id F
  have hS : va_S A s.heap s.heap [] := va_S.rf
  have hl : lv_has ls 3 [(0, .ref aA), (1, .ref (adK k1))] := hl
  have in_X6 : ∀ w ∈ wsX60, w ∈ wsX6_isWord := by decide +kernel
  have q1 := hts (Cond.fieldLink RX6 29 "ThirdFountain$Tape" "token" "I") (List.mem_of_getElem? (i := 1) rfl)
  have q4 := hts (Cond.methodLink RX6 109 yJ0_length_8abf5) (List.mem_of_getElem? (i := 4) rfl)
  have q2 := hts (Cond.fieldLink RX6 19 "ThirdFountain$Tape" "end" "I") (List.mem_of_getElem? (i := 2) rfl)
  have q3 := hts (Cond.fieldLink RX6 32 "ThirdFountain$Tape" "start" "I") (List.mem_of_getElem? (i := 3) rfl)
  have q16 := hts (Cond.methodLink RX6 78 yX6_byteAt) (List.mem_of_getElem? (i := 16) rfl)
  have q23 := hts (Cond.methodLink RX6 114 yJ0_charAt_5068e) (List.mem_of_getElem? (i := 23) rfl)
  unfold f_X6_isWord at h
  refine lv_aload_n hx hb dX6_isWord_0 rfl (lv_at hl 0 rfl) ?_
  refine va_get (D := D) (ci := 5) (v := .int vA_token) (C := RX6) (T := TX6) (N := 6) hx hb hts in_X6 hown hK hP 0 rfl rfl 2 (by decide) q1 (fun _ h9 => h9) rfl dX6_isWord_1 ?_
  refine lv_iconst (v := 1) hx hb dX6_isWord_4 (by decide) ?_
  refine lv_icmp_ne (tgt := 24) hx hb dX6_isWord_5 (by decide) (fun c1 => ?_) (fun c1 => ?_)
  · have h := br_neg c1 h
    refine lv_iconst (v := 0) hx hb dX6_isWord_24 (by decide) ?_
    obtain rfl := Option.some.inj h
    exact hret _ _ _ _ _ hP hD hS dX6_isWord_25 (nz_of (Or.inl rfl)) rfl
  · have h := br_pos c1 h
    refine lv_aload_n hx hb dX6_isWord_8 rfl (lv_at hl 1 rfl) ?_
    refine clE_Vi (rest := []) F hE hK hP hD hS hA hl (t_J0_length l D cyI cyJ cyZ cyB cyO adK adV fm k1 hk1) (cwV 0 hts gX6_isWord_J0_length_8abf5 rfl rfl rfl (by decide +kernel) ⟨Nat.le_of_ble_eq_true rfl, Nat.le_of_ble_eq_true rfl⟩) [] [0, 0] [] (w_X6_isWord cyI cyJ cyZ cyB cyO aA aA_bytes vA_size vA_token vA_start vA_end vA_number cA_bytes) (vk_recv hE.1 hk1 hS) rfl rfl rfl (by decide +kernel) rfl rfl (Nat.le_of_ble_eq_true rfl) ⟨Nat.zero_le _, Nat.zero_le _⟩ dX6_isWord_9 (fun H locs hP hD hS => ?_)
    refine lv_aload_n hx hb dX6_isWord_12 rfl (lv_at hl 0 rfl) ?_
    refine va_get (D := D) (ci := 5) (v := .int vA_end) (C := RX6) (T := TX6) (N := 6) hx hb hts in_X6 hown hK hP 0 rfl rfl 4 (by decide) q2 (fun _ h9 => h9) rfl dX6_isWord_13 ?_
    refine lv_aload_n hx hb dX6_isWord_16 rfl (lv_at hl 0 rfl) ?_
    refine va_get (D := D) (ci := 5) (v := .int vA_start) (C := RX6) (T := TX6) (N := 6) hx hb hts in_X6 hown hK hP 0 rfl rfl 3 (by decide) q3 (fun _ h9 => h9) rfl dX6_isWord_17 ?_
    refine lv_isub hx hb dX6_isWord_20 ?_
    refine lv_icmp_eq (tgt := 26) hx hb dX6_isWord_21 (by decide) (fun c2 => ?_) (fun c2 => ?_)
    · have h := br_pos c2 h
      refine lv_iconst (v := 0) hx hb dX6_isWord_26 (by decide) ?_
      refine lv_istore_n (lv' := [(2, .int (0 : Int32)), (0, .ref aA), (1, .ref (adK k1))]) hx hb dX6_isWord_27 rfl hl (by decide) rfl (fun ls hl => ?_)
      have lp28 : ∀ (k28 : Nat) (y2 : Int32) (H : Heap) (locs : List Loc) (ls : Array Slot), va_P D vwCl (w_X6_isWord cyI cyJ cyZ cyB cyO aA aA_bytes vA_size vA_token vA_start vA_end vA_number cA_bytes) H → va_D A (w_X6_isWord cyI cyJ cyZ cyB cyO aA aA_bytes vA_size vA_token vA_start vA_end vA_number cA_bytes) → va_S A s.heap H locs → lv_has ls 3 [(2, .int y2), (0, .ref aA), (1, .ref (adK k1))] → (f_X6_isWord_L28 k1 vA_size vA_token vA_start vA_end cA_bytes k28) y2 = some out → W p l e ({ frames := 4, cells := 0, slots := 0, locals := 85 } : Room) s m args below meth c H locs 0 0 Q (F0 m 28 ls []) := by
        intro k28
        induction k28 with
        | zero => intro y2 H locs ls hP hD hS hl h; cases h
        | succ k28 ih28 =>
          intro y2 H locs ls hP hD hS hl h
          have h : f_X6_isWord_L28_b k1 vA_size vA_token vA_start vA_end cA_bytes (f_X6_isWord_L28 k1 vA_size vA_token vA_start vA_end cA_bytes k28) y2 = some out := h
          unfold f_X6_isWord_L28_b at h
          refine lv_iload_n hx hb dX6_isWord_28 rfl (lv_at hl 0 rfl) ?_
          refine lv_aload_n hx hb dX6_isWord_29 rfl (lv_at hl 2 rfl) ?_
          refine clE_Vi (rest := [.int y2]) F hE hK hP hD hS hA hl (t_J0_length l D cyI cyJ cyZ cyB cyO adK adV fm k1 hk1) (cwV 0 hts gX6_isWord_J0_length_8abf5 rfl rfl rfl (by decide +kernel) ⟨Nat.le_of_ble_eq_true rfl, Nat.le_of_ble_eq_true rfl⟩) [] [0, 0] [] (w_X6_isWord cyI cyJ cyZ cyB cyO aA aA_bytes vA_size vA_token vA_start vA_end vA_number cA_bytes) (vk_recv hE.1 hk1 hS) rfl rfl rfl (by decide +kernel) rfl rfl (Nat.le_of_ble_eq_true rfl) ⟨Nat.zero_le _, Nat.zero_le _⟩ dX6_isWord_30 (fun H locs hP hD hS => ?_)
          refine lv_icmp_ge (tgt := 62) hx hb dX6_isWord_33 (by decide) (fun c3 => ?_) (fun c3 => ?_)
          · have h := br_pos c3 h
            refine lv_iconst (v := 1) hx hb dX6_isWord_62 (by decide) ?_
            obtain rfl := Option.some.inj h
            exact hret _ _ _ _ _ hP hD hS dX6_isWord_63 (nz_of (Or.inr rfl)) rfl
          · have h := br_neg c3 h
            refine lv_aload_n hx hb dX6_isWord_36 rfl (lv_at hl 1 rfl) ?_
            refine lv_aload_n hx hb dX6_isWord_37 rfl (lv_at hl 1 rfl) ?_
            refine va_get (D := D) (ci := 5) (v := .int vA_start) (C := RX6) (T := TX6) (N := 6) hx hb hts in_X6 hown hK hP 0 rfl rfl 3 (by decide) q3 (fun _ h9 => h9) rfl dX6_isWord_38 ?_
            refine lv_iload_n hx hb dX6_isWord_41 rfl (lv_at hl 0 rfl) ?_
            refine lv_iadd hx hb dX6_isWord_42 ?_
            obtain ⟨u4, hu4, h⟩ := bd_some h
            refine cl_Vi (rest := []) F hK hP hD hS hA hl (t_X6_byteAt l D cyI cyJ cyZ cyB cyO aA aA_bytes vA_size vA_token vA_start vA_end vA_number cA_bytes (vA_start + y2) u4 hu4) (cwV 1 hts gX6_isWord_X6_byteAt rfl rfl rfl (by decide +kernel) ⟨Nat.le_of_ble_eq_true rfl, Nat.le_of_ble_eq_true rfl⟩) 0 [0, 1] [1, 2] [] (w_X6_isWord cyI cyJ cyZ cyB cyO aA aA_bytes vA_size vA_token vA_start vA_end vA_number cA_bytes) rfl rfl rfl rfl rfl (by decide +kernel) rfl rfl (Nat.le_of_ble_eq_true rfl) ⟨Nat.zero_le _, Nat.zero_le _⟩ dX6_isWord_43 (fun H locs hP hD hS => ?_)
            refine lv_aload_n hx hb dX6_isWord_46 rfl (lv_at hl 2 rfl) ?_
            refine lv_iload_n hx hb dX6_isWord_47 rfl (lv_at hl 0 rfl) ?_
            obtain ⟨g5, h⟩ := gd_some h
            refine clE_Vi (rest := [.int u4]) F hE hK hP hD hS hA hl (t_J0_charAt l D cyI cyJ cyZ cyB cyO adK adV fm k1 hk1 y2 g5) (cwV 1 hts gX6_isWord_J0_charAt_5068e rfl rfl rfl (by decide +kernel) ⟨Nat.le_of_ble_eq_true rfl, Nat.le_of_ble_eq_true rfl⟩) [] [0, 0] [] (w_X6_isWord cyI cyJ cyZ cyB cyO aA aA_bytes vA_size vA_token vA_start vA_end vA_number cA_bytes) (vk_recv hE.1 hk1 hS) rfl rfl rfl (by decide +kernel) rfl rfl (Nat.le_of_ble_eq_true rfl) ⟨Nat.zero_le _, Nat.zero_le _⟩ dX6_isWord_48 (fun H locs hP hD hS => ?_)
            refine lv_icmp_eq (tgt := 56) hx hb dX6_isWord_51 (by decide) (fun c6 => ?_) (fun c6 => ?_)
            · have h := br_pos c6 h
              refine lv_iinc (v := y2 + 1) (lv' := [(2, .int (y2 + 1)), (0, .ref aA), (1, .ref (adK k1))]) hx hb dX6_isWord_56 hl (k := 0) rfl rfl (by decide) rfl (fun ls hl => ?_)
              refine lv_goto (tgt := 28) hx hb dX6_isWord_59 (by decide) ?_
              exact ih28 (y2 + 1) _ _ _ hP hD hS (lv_sub hl [0, 1, 2] rfl) h
            · have h := br_neg c6 h
              refine lv_iconst (v := 0) hx hb dX6_isWord_54 (by decide) ?_
              obtain rfl := Option.some.inj h
              exact hret _ _ _ _ _ hP hD hS dX6_isWord_55 (nz_of (Or.inl rfl)) rfl
      exact lp28 FU (0 : Int32) _ _ _ hP hD hS (lv_sub hl [0, 1, 2] rfl) h
    · have h := br_neg c2 h
      refine lv_iconst (v := 0) hx hb dX6_isWord_24 (by decide) ?_
      obtain rfl := Option.some.inj h
      exact hret _ _ _ _ _ hP hD hS dX6_isWord_25 (nz_of (Or.inl rfl)) rfl
/-! ===== X6_wordOf ===== -/
def w_X6_wordOf (cyI cyJ cyZ cyB cyO : ClassId) : va_W := []
set_option maxHeartbeats 4000000 in
set_option maxRecDepth 100000 in
theorem t_X6_wordOf (l : Launch) (D : va_G) (cyI cyJ cyZ cyB cyO : ClassId) (adK adV : Nat → Nat) (fm : Nat) (x0 : Int32) (out : Nat) (h : f_X6_wordOf x0 = some out) : MqE l yX6_wordOf wsX6_wordOf ({ frames := 0, cells := 0, slots := 0, locals := 0 } : Room) D (tyA cyI cyJ cyZ cyB cyO) [.int x0] (w_X6_wordOf cyI cyJ cyZ cyB cyO ) (w_X6_wordOf cyI cyJ cyZ cyB cyO ) (some (adK out)) adK adV fm := by
  refine MqE.mk (cc := cX6_wordOf) (maxL := 1) (rt := "java/lang/String") (own := RX6) (by decide) rfl rfl (Nat.le_of_ble_eq_true rfl) ?_
  intro p e s m args below meth c A Q F hE hK hP hD hA hret ls hl
  obtain ⟨hx, hb, hml, hown, hts⟩ := id F
  have hS : va_S A s.heap s.heap [] := va_S.rf
  have hl : lv_has ls 1 [(0, .int x0)] := hl
  unfold f_X6_wordOf at h
  refine lv_iload_n hx hb dX6_wordOf_0 rfl (lv_at hl 0 rfl) ?_
  by_cases c1 : x0 = 1
  · have h := br_pos c1 h
    refine lv_tableIn (off := 39) (tgt := 40) hx hb dX6_wordOf_1 (by rw [c1]; decide) (by rw [c1]; decide) (by rw [c1]; rfl) (by decide) ?_
    refine va_ldcS hx hb hown (hE.2.2.2 3 (by decide)) dX6_wordOf_40 ?_
    obtain rfl := Option.some.inj h
    exact hret (some (adK 3)) _ _ _ _ hP hD hS dX6_wordOf_42 rfl
  have h := br_neg c1 h
  by_cases c2 : x0 = 2
  · have h := br_pos c2 h
    refine lv_tableIn (off := 42) (tgt := 43) hx hb dX6_wordOf_1 (by rw [c2]; decide) (by rw [c2]; decide) (by rw [c2]; rfl) (by decide) ?_
    refine va_ldcS hx hb hown (hE.2.2.2 4 (by decide)) dX6_wordOf_43 ?_
    obtain rfl := Option.some.inj h
    exact hret (some (adK 4)) _ _ _ _ hP hD hS dX6_wordOf_45 rfl
  have h := br_neg c2 h
  by_cases c3 : x0 = 3
  · have h := br_pos c3 h
    refine lv_tableIn (off := 45) (tgt := 46) hx hb dX6_wordOf_1 (by rw [c3]; decide) (by rw [c3]; decide) (by rw [c3]; rfl) (by decide) ?_
    refine va_ldcS hx hb hown (hE.2.2.2 5 (by decide)) dX6_wordOf_46 ?_
    obtain rfl := Option.some.inj h
    exact hret (some (adK 5)) _ _ _ _ hP hD hS dX6_wordOf_48 rfl
  have h := br_neg c3 h
  by_cases c4 : x0 = 4
  · have h := br_pos c4 h
    refine lv_tableIn (off := 48) (tgt := 49) hx hb dX6_wordOf_1 (by rw [c4]; decide) (by rw [c4]; decide) (by rw [c4]; rfl) (by decide) ?_
    refine va_ldcS hx hb hown (hE.2.2.2 6 (by decide)) dX6_wordOf_49 ?_
    obtain rfl := Option.some.inj h
    exact hret (some (adK 6)) _ _ _ _ hP hD hS dX6_wordOf_51 rfl
  have h := br_neg c4 h
  by_cases c5 : x0 = 5
  · have h := br_pos c5 h
    refine lv_tableIn (off := 51) (tgt := 52) hx hb dX6_wordOf_1 (by rw [c5]; decide) (by rw [c5]; decide) (by rw [c5]; rfl) (by decide) ?_
    refine va_ldcS hx hb hown (hE.2.2.2 7 (by decide)) dX6_wordOf_52 ?_
    obtain rfl := Option.some.inj h
    exact hret (some (adK 7)) _ _ _ _ hP hD hS dX6_wordOf_54 rfl
  have h := br_neg c5 h
  by_cases c6 : x0 = 6
  · have h := br_pos c6 h
    refine lv_tableIn (off := 54) (tgt := 55) hx hb dX6_wordOf_1 (by rw [c6]; decide) (by rw [c6]; decide) (by rw [c6]; rfl) (by decide) ?_
    refine va_ldcS hx hb hown (hE.2.2.2 8 (by decide)) dX6_wordOf_55 ?_
    obtain rfl := Option.some.inj h
    exact hret (some (adK 8)) _ _ _ _ hP hD hS dX6_wordOf_57 rfl
  have h := br_neg c6 h
  refine lv_tableOut (tgt := 58) hx hb dX6_wordOf_1 (sw_c c1 (sw_c c2 (sw_c c3 (sw_c c4 (sw_c c5 (sw_c c6 (sw_n (by decide)))))))) (by decide) ?_
  refine va_ldcS hx hb hown (hE.2.2.2 9 (by decide)) dX6_wordOf_58 ?_
  obtain rfl := Option.some.inj h
  exact hret (some (adK 9)) _ _ _ _ hP hD hS dX6_wordOf_60 rfl
/-! ===== X6_kindTold ===== -/
def w_X6_kindTold (cyI cyJ cyZ cyB cyO : ClassId) (aA aA_bytes : Nat) (vA_size : Int32) (vA_token : Int32) (vA_start : Int32) (vA_end : Int32) (vA_number : Int32) (cA_bytes : Nat → Int32) : va_W := [(aA, .inr (5, [.ref aA_bytes, .int vA_size, .int vA_token, .int vA_start, .int vA_end, .int vA_number])), (aA_bytes, .inl (cyI, 120, .inl cA_bytes))]
set_option maxHeartbeats 4000000 in
set_option maxRecDepth 100000 in
theorem t_X6_kindTold (l : Launch) (D : va_G) (cyI cyJ cyZ cyB cyO : ClassId) (adK adV : Nat → Nat) (fm : Nat) (aA aA_bytes : Nat) (vA_size : Int32) (vA_token : Int32) (vA_start : Int32) (vA_end : Int32) (vA_number : Int32) (cA_bytes : Nat → Int32) (out : Int32) (h : f_X6_kindTold vA_size vA_token vA_start vA_end cA_bytes = some out) : MiE l yX6_kindTold wsX6_kindTold ({ frames := 5, cells := 0, slots := 0, locals := 107 } : Room) D (tyA cyI cyJ cyZ cyB cyO) [.ref aA] (w_X6_kindTold cyI cyJ cyZ cyB cyO aA aA_bytes vA_size vA_token vA_start vA_end vA_number cA_bytes) (w_X6_kindTold cyI cyJ cyZ cyB cyO aA aA_bytes vA_size vA_token vA_start vA_end vA_number cA_bytes) out adK adV fm := by
  refine MiE.mk (cc := cX6_kindTold) (maxL := 2) (rt := .int) (own := RX6) (by decide) rfl rfl (Nat.le_of_ble_eq_true rfl) ?_
  intro p e s m args below meth c A Q F hE hK hP hD hA hret ls hl
  obtain ⟨hx, hb, hml, hown, hts⟩ := id F
  have hS : va_S A s.heap s.heap [] := va_S.rf
  have hl : lv_has ls 2 [(0, .ref aA)] := hl
  have q1 := hts (Cond.methodLink RX6 91 yX6_wordOf) (List.mem_of_getElem? (i := 1) rfl)
  have q5 := hts (Cond.methodLink RX6 37 yX6_isWord) (List.mem_of_getElem? (i := 5) rfl)
  unfold f_X6_kindTold at h
  refine lv_iconst (v := 0) hx hb dX6_kindTold_0 (by decide) ?_
  refine lv_istore_n (lv' := [(1, .int (0 : Int32)), (0, .ref aA)]) hx hb dX6_kindTold_1 rfl hl (by decide) rfl (fun ls hl => ?_)
  have lp2 : ∀ (k2 : Nat) (y1 : Int32) (H : Heap) (locs : List Loc) (ls : Array Slot), va_P D vwCl (w_X6_kindTold cyI cyJ cyZ cyB cyO aA aA_bytes vA_size vA_token vA_start vA_end vA_number cA_bytes) H → va_D A (w_X6_kindTold cyI cyJ cyZ cyB cyO aA aA_bytes vA_size vA_token vA_start vA_end vA_number cA_bytes) → va_S A s.heap H locs → lv_has ls 2 [(1, .int y1), (0, .ref aA)] → (f_X6_kindTold_L2 vA_size vA_token vA_start vA_end cA_bytes k2) y1 = some out → W p l e ({ frames := 5, cells := 0, slots := 0, locals := 107 } : Room) s m args below meth c H locs 0 0 Q (F0 m 2 ls []) := by
    intro k2
    induction k2 with
    | zero => intro y1 H locs ls hP hD hS hl h; cases h
    | succ k2 ih2 =>
      intro y1 H locs ls hP hD hS hl h
      have h : f_X6_kindTold_L2_b vA_size vA_token vA_start vA_end cA_bytes (f_X6_kindTold_L2 vA_size vA_token vA_start vA_end cA_bytes k2) y1 = some out := h
      unfold f_X6_kindTold_L2_b at h
      refine lv_iload_n hx hb dX6_kindTold_2 rfl (lv_at hl 0 rfl) ?_
      refine lv_bipush (v := 6) hx hb dX6_kindTold_3 (by decide) ?_
      refine lv_icmp_gt (tgt := 27) hx hb dX6_kindTold_5 (by decide) (fun c1 => ?_) (fun c1 => ?_)
      · have h := br_pos c1 h
        refine lv_iconst (v := -1) hx hb dX6_kindTold_27 (by decide) ?_
        obtain rfl := Option.some.inj h
        exact hret _ _ _ _ _ hP hD hS dX6_kindTold_28 rfl rfl
      · have h := br_neg c1 h
        refine lv_aload_n hx hb dX6_kindTold_8 rfl (lv_at hl 1 rfl) ?_
        refine lv_iload_n hx hb dX6_kindTold_9 rfl (lv_at hl 0 rfl) ?_
        obtain ⟨u2, hu2, h⟩ := bd_some h
        refine clE_Sq (rest := [.ref aA]) F hE hK hP hD hS hA hl (t_X6_wordOf l D cyI cyJ cyZ cyB cyO adK adV fm y1 u2 hu2) (va_cwS 1 hts gX6_kindTold_X6_wordOf rfl rfl rfl (by decide +kernel) ⟨Nat.le_of_ble_eq_true rfl, Nat.le_of_ble_eq_true rfl⟩) [] [0, 0] [] (w_X6_kindTold cyI cyJ cyZ cyB cyO aA aA_bytes vA_size vA_token vA_start vA_end vA_number cA_bytes) rfl rfl rfl (by decide +kernel) rfl rfl (Nat.le_of_ble_eq_true rfl) ⟨Nat.zero_le _, Nat.zero_le _⟩ dX6_kindTold_10 (fun H locs hP hD hS => ?_)
        obtain ⟨g3, h⟩ := gd_some h
        obtain ⟨u4, hu4, h⟩ := bd_some h
        refine clE_Vi (rest := []) F hE hK hP hD hS hA hl (t_X6_isWord l D cyI cyJ cyZ cyB cyO adK adV fm aA aA_bytes vA_size vA_token vA_start vA_end vA_number cA_bytes u2 g3 u4 hu4) (cwV 1 hts gX6_kindTold_X6_isWord rfl rfl rfl (by decide +kernel) ⟨Nat.le_of_ble_eq_true rfl, Nat.le_of_ble_eq_true rfl⟩) [0, 1] [1, 2] [] (w_X6_kindTold cyI cyJ cyZ cyB cyO aA aA_bytes vA_size vA_token vA_start vA_end vA_number cA_bytes) (va_recv hK hP (q := (RX6, TX6, 6)) (ci := 5) (q0 := 0) rfl rfl) rfl rfl rfl (by decide +kernel) rfl rfl (Nat.le_of_ble_eq_true rfl) ⟨Nat.zero_le _, Nat.zero_le _⟩ dX6_kindTold_13 (fun H locs hP hD hS => ?_)
        refine lv_if_eq (tgt := 21) hx hb dX6_kindTold_16 (by decide) (fun c5 => ?_) (fun c5 => ?_)
        · have h := br_pos c5 h
          refine lv_iinc (v := y1 + 1) (lv' := [(1, .int (y1 + 1)), (0, .ref aA)]) hx hb dX6_kindTold_21 hl (k := 0) rfl rfl (by decide) rfl (fun ls hl => ?_)
          refine lv_goto (tgt := 2) hx hb dX6_kindTold_24 (by decide) ?_
          exact ih2 (y1 + 1) _ _ _ hP hD hS (lv_sub hl [0, 1] rfl) h
        · have h := br_neg c5 h
          refine lv_iload_n hx hb dX6_kindTold_19 rfl (lv_at hl 0 rfl) ?_
          obtain rfl := Option.some.inj h
          exact hret _ _ _ _ _ hP hD hS dX6_kindTold_20 rfl rfl
  exact lp2 FU (0 : Int32) _ _ _ hP hD hS (lv_sub hl [0, 1] rfl) h
/-! ===== X6_readBasin ===== -/
def w_X6_readBasin (cyI cyJ cyZ cyB cyO : ClassId) (aF aA aA_bytes aF_kind aF_above aF_edge aF_pool aF_store aF_spot : Nat) (vF_basins : Int32) (vF_spring : Int32) (vF_hour : Int32) (vF_z : Int32) (vA_size : Int32) (vA_token : Int32) (vA_start : Int32) (vA_end : Int32) (vA_number : Int32) (cA_bytes : Nat → Int32) (cF_kind : Nat → Int32) (cF_above : Nat → Int32) (cF_edge : Nat → Int32) (cF_pool : Nat → Int32) (cF_store : Nat → Int32) : va_W := [(aF, .inr (2, [.ref aF_kind, .ref aF_above, .ref aF_edge, .ref aF_pool, .ref aF_store, .ref aF_spot, .int vF_basins, .int vF_spring, .int vF_hour, .int vF_z])), (aA, .inr (5, [.ref aA_bytes, .int vA_size, .int vA_token, .int vA_start, .int vA_end, .int vA_number])), (aA_bytes, .inl (cyI, 120, .inl cA_bytes)), (aF_kind, .inl (cyI, 10, .inl cF_kind)), (aF_above, .inl (cyI, 10, .inl cF_above)), (aF_edge, .inl (cyI, 10, .inl cF_edge)), (aF_pool, .inl (cyI, 10, .inl cF_pool)), (aF_store, .inl (cyI, 10, .inl cF_store))]
set_option maxHeartbeats 4000000 in
set_option maxRecDepth 100000 in
theorem t_X6_readBasin (l : Launch) (D : va_G) (cyI cyJ cyZ cyB cyO : ClassId) (adK adV : Nat → Nat) (fm : Nat) (aF aA aA_bytes aF_kind aF_above aF_edge aF_pool aF_store aF_spot : Nat) (vF_basins : Int32) (vF_spring : Int32) (vF_hour : Int32) (vF_z : Int32) (vA_size : Int32) (vA_token : Int32) (vA_start : Int32) (vA_end : Int32) (vA_number : Int32) (cA_bytes : Nat → Int32) (cF_kind : Nat → Int32) (cF_above : Nat → Int32) (cF_edge : Nat → Int32) (cF_pool : Nat → Int32) (cF_store : Nat → Int32) (x2 : Int32) (out : Int32 × Int32 × Int32 × Int32 × Int32 × Int32 × (Nat → Int32) × (Nat → Int32) × (Nat → Int32) × (Nat → Int32) × (Nat → Int32)) (h : f_X6_readBasin x2 vF_basins vA_size vA_token vA_start vA_end vA_number cA_bytes cF_kind cF_above cF_edge cF_pool cF_store = some out) : MiE l yX6_readBasin wsX6_readBasin ({ frames := 5, cells := 0, slots := 0, locals := 107 } : Room) D (tyA cyI cyJ cyZ cyB cyO) [.ref aA, .ref aF, .int x2] (w_X6_readBasin cyI cyJ cyZ cyB cyO aF aA aA_bytes aF_kind aF_above aF_edge aF_pool aF_store aF_spot vF_basins vF_spring vF_hour vF_z vA_size vA_token vA_start vA_end vA_number cA_bytes cF_kind cF_above cF_edge cF_pool cF_store) (w_X6_readBasin cyI cyJ cyZ cyB cyO aF aA aA_bytes aF_kind aF_above aF_edge aF_pool aF_store aF_spot out.2.1 vF_spring vF_hour vF_z vA_size out.2.2.1 out.2.2.2.1 out.2.2.2.2.1 out.2.2.2.2.2.1 cA_bytes out.2.2.2.2.2.2.1 out.2.2.2.2.2.2.2.1 out.2.2.2.2.2.2.2.2.1 out.2.2.2.2.2.2.2.2.2.1 out.2.2.2.2.2.2.2.2.2.2) out.1 adK adV fm := by
  refine MiE.mk (cc := cX6_readBasin) (maxL := 5) (rt := .boolean) (own := RX6) (by decide) rfl rfl (Nat.le_of_ble_eq_true rfl) ?_
  intro p e s m args below meth c A Q F hE hK hP hD hA hret ls hl
  obtain ⟨hx, hb, hml, hown, hts⟩ := id F
  have hS : va_S A s.heap s.heap [] := va_S.rf
  have hl : lv_has ls 5 [(0, .ref aA), (1, .ref aF), (2, .int x2)] := hl
  have in_X2 : ∀ w ∈ wsX20, w ∈ wsX6_readBasin := by decide +kernel
  have in_X6 : ∀ w ∈ wsX60, w ∈ wsX6_readBasin := by decide +kernel
  have q1 := hts (Cond.fieldLink RX6 48 "ThirdFountain$Fountain" "basins" "I") (List.mem_of_getElem? (i := 1) rfl)
  have q3 := hts (Cond.methodLink RX6 37 yX6_isWord) (List.mem_of_getElem? (i := 3) rfl)
  have q87 := hts (Cond.methodLink RX6 71 yX2_add) (List.mem_of_getElem? (i := 87) rfl)
  have q66 := hts (Cond.methodLink RX6 22 yX6_advance) (List.mem_of_getElem? (i := 66) rfl)
  have q74 := hts (Cond.methodLink RX6 58 yX6_readNumber) (List.mem_of_getElem? (i := 74) rfl)
  have q2 := hts (Cond.fieldLink RX6 62 "ThirdFountain$Tape" "number" "I") (List.mem_of_getElem? (i := 2) rfl)
  unfold f_X6_readBasin at h
  refine lv_iconst (v := -1) hx hb dX6_readBasin_0 (by decide) ?_
  refine lv_istore_n (lv' := [(3, .int (-1 : Int32)), (0, .ref aA), (1, .ref aF), (2, .int x2)]) hx hb dX6_readBasin_1 rfl hl (by decide) rfl (fun ls hl => ?_)
  refine lv_aload_n hx hb dX6_readBasin_2 rfl (lv_at hl 2 rfl) ?_
  refine va_get (D := D) (ci := 2) (v := .int vF_basins) (C := RX2) (T := TX2) (N := 10) hx hb hts in_X2 hown hK hP 0 rfl rfl 6 (by decide) q1 (fun _ h9 => h9) rfl dX6_readBasin_3 ?_
  have j45 : ∀ (y3 : Int32) (vF_basins : Int32) (vA_token : Int32) (vA_start : Int32) (vA_end : Int32) (vA_number : Int32) (cF_kind : Nat → Int32) (cF_above : Nat → Int32) (cF_edge : Nat → Int32) (cF_pool : Nat → Int32) (cF_store : Nat → Int32) (H : Heap) (locs : List Loc) (ls : Array Slot), va_P D vwCl (w_X6_readBasin cyI cyJ cyZ cyB cyO aF aA aA_bytes aF_kind aF_above aF_edge aF_pool aF_store aF_spot vF_basins vF_spring vF_hour vF_z vA_size vA_token vA_start vA_end vA_number cA_bytes cF_kind cF_above cF_edge cF_pool cF_store) H → va_D A (w_X6_readBasin cyI cyJ cyZ cyB cyO aF aA aA_bytes aF_kind aF_above aF_edge aF_pool aF_store aF_spot vF_basins vF_spring vF_hour vF_z vA_size vA_token vA_start vA_end vA_number cA_bytes cF_kind cF_above cF_edge cF_pool cF_store) → va_S A s.heap H locs → lv_has ls 5 [(3, .int y3), (0, .ref aA), (1, .ref aF), (2, .int x2)] → f_X6_readBasin_J45 x2 vA_size cA_bytes y3 vF_basins vA_token vA_start vA_end vA_number cF_kind cF_above cF_edge cF_pool cF_store = some out → W p l e ({ frames := 5, cells := 0, slots := 0, locals := 107 } : Room) s m args below meth c H locs 0 0 Q (F0 m 45 ls []) := by
    intro y3 vF_basins vA_token vA_start vA_end vA_number cF_kind cF_above cF_edge cF_pool cF_store H locs ls hP hD hS hl h
    unfold f_X6_readBasin_J45 at h
    refine lv_iconst (v := 1) hx hb dX6_readBasin_45 (by decide) ?_
    refine lv_istore (lv' := [(4, .int (1 : Int32)), (3, .int y3), (0, .ref aA), (1, .ref aF), (2, .int x2)]) hx hb dX6_readBasin_46 hl (by decide) rfl (fun ls hl => ?_)
    refine lv_aload_n hx hb dX6_readBasin_48 rfl (lv_at hl 2 rfl) ?_
    refine va_ldcS hx hb hown (hE.2.2.2 2 (by decide)) dX6_readBasin_49 ?_
    obtain ⟨u1, hu1, h⟩ := bd_some h
    refine clE_Vi (rest := []) F hE hK hP hD hS hA hl (t_X6_isWord l D cyI cyJ cyZ cyB cyO adK adV fm aA aA_bytes vA_size vA_token vA_start vA_end vA_number cA_bytes 2 (by decide) u1 hu1) (cwV 1 hts gX6_readBasin_X6_isWord rfl rfl rfl (by decide +kernel) ⟨Nat.le_of_ble_eq_true rfl, Nat.le_of_ble_eq_true rfl⟩) [1, 2] [0, 1, 2, 0, 0, 0, 0, 0] [] (w_X6_readBasin cyI cyJ cyZ cyB cyO aF aA aA_bytes aF_kind aF_above aF_edge aF_pool aF_store aF_spot vF_basins vF_spring vF_hour vF_z vA_size vA_token vA_start vA_end vA_number cA_bytes cF_kind cF_above cF_edge cF_pool cF_store) (va_recv hK hP (q := (RX6, TX6, 6)) (ci := 5) (q0 := 1) rfl rfl) rfl rfl rfl (by decide +kernel) rfl rfl (Nat.le_of_ble_eq_true rfl) ⟨Nat.zero_le _, Nat.zero_le _⟩ dX6_readBasin_51 (fun H locs hP hD hS => ?_)
    have j79 : ∀ (y3 : Int32) (y4 : Int32) (vF_basins : Int32) (vA_token : Int32) (vA_start : Int32) (vA_end : Int32) (vA_number : Int32) (cF_kind : Nat → Int32) (cF_above : Nat → Int32) (cF_edge : Nat → Int32) (cF_pool : Nat → Int32) (cF_store : Nat → Int32) (H : Heap) (locs : List Loc) (ls : Array Slot), va_P D vwCl (w_X6_readBasin cyI cyJ cyZ cyB cyO aF aA aA_bytes aF_kind aF_above aF_edge aF_pool aF_store aF_spot vF_basins vF_spring vF_hour vF_z vA_size vA_token vA_start vA_end vA_number cA_bytes cF_kind cF_above cF_edge cF_pool cF_store) H → va_D A (w_X6_readBasin cyI cyJ cyZ cyB cyO aF aA aA_bytes aF_kind aF_above aF_edge aF_pool aF_store aF_spot vF_basins vF_spring vF_hour vF_z vA_size vA_token vA_start vA_end vA_number cA_bytes cF_kind cF_above cF_edge cF_pool cF_store) → va_S A s.heap H locs → lv_has ls 5 [(3, .int y3), (4, .int y4), (1, .ref aF), (2, .int x2)] → f_X6_readBasin_J79 x2 vA_size cA_bytes y3 y4 vF_basins vA_token vA_start vA_end vA_number cF_kind cF_above cF_edge cF_pool cF_store = some out → W p l e ({ frames := 5, cells := 0, slots := 0, locals := 107 } : Room) s m args below meth c H locs 0 0 Q (F0 m 79 ls []) := by
      intro y3 y4 vF_basins vA_token vA_start vA_end vA_number cF_kind cF_above cF_edge cF_pool cF_store H locs ls hP hD hS hl h
      unfold f_X6_readBasin_J79 at h
      refine lv_aload_n hx hb dX6_readBasin_79 rfl (lv_at hl 2 rfl) ?_
      refine lv_iload_n hx hb dX6_readBasin_80 rfl (lv_at hl 3 rfl) ?_
      refine lv_iload_n hx hb dX6_readBasin_81 rfl (lv_at hl 0 rfl) ?_
      refine lv_iload hx hb dX6_readBasin_82 (lv_at hl 1 rfl) ?_
      obtain ⟨u2, hu2, h⟩ := bd_some h
      refine cl_Vi (rest := []) F hK hP hD hS hA hl (t_X2_add l D cyI cyJ cyZ cyB cyO aF aF_kind aF_above aF_edge aF_pool aF_store aF_spot vF_basins vF_spring vF_hour vF_z cF_kind cF_above cF_edge cF_pool cF_store x2 y3 y4 u2 hu2) (cwV 3 hts gX6_readBasin_X2_add rfl rfl rfl (by decide +kernel) ⟨Nat.le_of_ble_eq_true rfl, Nat.le_of_ble_eq_true rfl⟩) 0 [0, 3, 4, 5, 6, 7] [1, 0, 0, 2, 3, 4, 5, 6] [] (w_X6_readBasin cyI cyJ cyZ cyB cyO aF aA aA_bytes aF_kind aF_above aF_edge aF_pool aF_store aF_spot u2.2.1 vF_spring vF_hour vF_z vA_size vA_token vA_start vA_end vA_number cA_bytes u2.2.2.1 u2.2.2.2.1 u2.2.2.2.2.1 u2.2.2.2.2.2.1 u2.2.2.2.2.2.2) rfl rfl rfl rfl rfl (by decide +kernel) rfl rfl (Nat.le_of_ble_eq_true rfl) ⟨Nat.zero_le _, Nat.zero_le _⟩ dX6_readBasin_84 (fun H locs hP hD hS => ?_)
      refine lv_pop hx hb dX6_readBasin_87 rfl ?_
      refine lv_iconst (v := 1) hx hb dX6_readBasin_88 (by decide) ?_
      obtain rfl := Option.some.inj h
      exact hret _ _ _ _ _ hP hD hS dX6_readBasin_89 (nz_of (Or.inr rfl)) rfl
    refine lv_if_eq (tgt := 79) hx hb dX6_readBasin_54 (by decide) (fun c3 => ?_) (fun c3 => ?_)
    · have h := br_pos c3 h
      exact j79 y3 (1 : Int32) vF_basins vA_token vA_start vA_end vA_number cF_kind cF_above cF_edge cF_pool cF_store _ _ _ hP hD hS (lv_sub hl [1, 0, 3, 4] rfl) h
    · have h := br_neg c3 h
      refine lv_aload_n hx hb dX6_readBasin_57 rfl (lv_at hl 2 rfl) ?_
      obtain ⟨u4, hu4, h⟩ := bd_some h
      refine cl_Vv (rest := []) F hK hP hD hS hA hl (t_X6_advance l D cyI cyJ cyZ cyB cyO aA aA_bytes vA_size vA_token vA_start vA_end vA_number cA_bytes u4 hu4) (cwV 0 hts gX6_readBasin_X6_advance rfl rfl rfl (by decide +kernel) ⟨Nat.le_of_ble_eq_true rfl, Nat.le_of_ble_eq_true rfl⟩) 1 [1, 2] [0, 1, 2, 0, 0, 0, 0, 0] [] (w_X6_readBasin cyI cyJ cyZ cyB cyO aF aA aA_bytes aF_kind aF_above aF_edge aF_pool aF_store aF_spot vF_basins vF_spring vF_hour vF_z vA_size u4.1 u4.2.1 u4.2.2 vA_number cA_bytes cF_kind cF_above cF_edge cF_pool cF_store) rfl rfl rfl rfl rfl (by decide +kernel) rfl rfl (Nat.le_of_ble_eq_true rfl) ⟨Nat.zero_le _, Nat.zero_le _⟩ dX6_readBasin_58 (fun H locs hP hD hS => ?_)
      refine lv_aload_n hx hb dX6_readBasin_61 rfl (lv_at hl 2 rfl) ?_
      refine lv_iconst (v := 1) hx hb dX6_readBasin_62 (by decide) ?_
      refine lv_bipush (v := 9) hx hb dX6_readBasin_63 (by decide) ?_
      obtain ⟨u5, hu5, h⟩ := bd_some h
      refine cl_Vi (rest := []) F hK hP hD hS hA hl (t_X6_readNumber l D cyI cyJ cyZ cyB cyO aA aA_bytes vA_size u4.1 u4.2.1 u4.2.2 vA_number cA_bytes (1 : Int32) (9 : Int32) u5 hu5) (cwV 2 hts gX6_readBasin_X6_readNumber rfl rfl rfl (by decide +kernel) ⟨Nat.le_of_ble_eq_true rfl, Nat.le_of_ble_eq_true rfl⟩) 1 [1, 2] [0, 1, 2, 0, 0, 0, 0, 0] [] (w_X6_readBasin cyI cyJ cyZ cyB cyO aF aA aA_bytes aF_kind aF_above aF_edge aF_pool aF_store aF_spot vF_basins vF_spring vF_hour vF_z vA_size u5.2.1 u5.2.2.1 u5.2.2.2.1 u5.2.2.2.2 cA_bytes cF_kind cF_above cF_edge cF_pool cF_store) rfl rfl rfl rfl rfl (by decide +kernel) rfl rfl (Nat.le_of_ble_eq_true rfl) ⟨Nat.zero_le _, Nat.zero_le _⟩ dX6_readBasin_65 (fun H locs hP hD hS => ?_)
      refine lv_if_ne (tgt := 73) hx hb dX6_readBasin_68 (by decide) (fun c6 => ?_) (fun c6 => ?_)
      · have h := br_neg c6 h
        refine lv_aload_n hx hb dX6_readBasin_73 rfl (lv_at hl 2 rfl) ?_
        refine va_get (D := D) (ci := 5) (v := .int u5.2.2.2.2) (C := RX6) (T := TX6) (N := 6) hx hb hts in_X6 hown hK hP 1 rfl rfl 5 (by decide) q2 (fun _ h9 => h9) rfl dX6_readBasin_74 ?_
        refine lv_istore (lv' := [(4, .int u5.2.2.2.2), (3, .int y3), (0, .ref aA), (1, .ref aF), (2, .int x2)]) hx hb dX6_readBasin_77 hl (by decide) rfl (fun ls hl => ?_)
        exact j79 y3 u5.2.2.2.2 vF_basins u5.2.1 u5.2.2.1 u5.2.2.2.1 u5.2.2.2.2 cF_kind cF_above cF_edge cF_pool cF_store _ _ _ hP hD hS (lv_sub hl [1, 0, 3, 4] rfl) h
      · have h := br_pos c6 h
        refine lv_iconst (v := 0) hx hb dX6_readBasin_71 (by decide) ?_
        obtain rfl := Option.some.inj h
        exact hret _ _ _ _ _ hP hD hS dX6_readBasin_72 (nz_of (Or.inl rfl)) rfl
  refine lv_if_le (tgt := 45) hx hb dX6_readBasin_6 (by decide) (fun c7 => ?_) (fun c7 => ?_)
  · have h := br_pos c7 h
    exact j45 (-1 : Int32) vF_basins vA_token vA_start vA_end vA_number cF_kind cF_above cF_edge cF_pool cF_store _ _ _ hP hD hS (lv_sub hl [0, 1, 2, 3] rfl) h
  · have h := br_neg c7 h
    refine lv_aload_n hx hb dX6_readBasin_9 rfl (lv_at hl 1 rfl) ?_
    refine va_ldcS hx hb hown (hE.2.2.2 1 (by decide)) dX6_readBasin_10 ?_
    obtain ⟨u8, hu8, h⟩ := bd_some h
    refine clE_Vi (rest := []) F hE hK hP hD hS hA hl (t_X6_isWord l D cyI cyJ cyZ cyB cyO adK adV fm aA aA_bytes vA_size vA_token vA_start vA_end vA_number cA_bytes 1 (by decide) u8 hu8) (cwV 1 hts gX6_readBasin_X6_isWord rfl rfl rfl (by decide +kernel) ⟨Nat.le_of_ble_eq_true rfl, Nat.le_of_ble_eq_true rfl⟩) [1, 2] [0, 1, 2, 0, 0, 0, 0, 0] [] (w_X6_readBasin cyI cyJ cyZ cyB cyO aF aA aA_bytes aF_kind aF_above aF_edge aF_pool aF_store aF_spot vF_basins vF_spring vF_hour vF_z vA_size vA_token vA_start vA_end vA_number cA_bytes cF_kind cF_above cF_edge cF_pool cF_store) (va_recv hK hP (q := (RX6, TX6, 6)) (ci := 5) (q0 := 1) rfl rfl) rfl rfl rfl (by decide +kernel) rfl rfl (Nat.le_of_ble_eq_true rfl) ⟨Nat.zero_le _, Nat.zero_le _⟩ dX6_readBasin_12 (fun H locs hP hD hS => ?_)
    refine lv_if_ne (tgt := 20) hx hb dX6_readBasin_15 (by decide) (fun c9 => ?_) (fun c9 => ?_)
    · have h := br_neg c9 h
      refine lv_aload_n hx hb dX6_readBasin_20 rfl (lv_at hl 1 rfl) ?_
      obtain ⟨u10, hu10, h⟩ := bd_some h
      refine cl_Vv (rest := []) F hK hP hD hS hA hl (t_X6_advance l D cyI cyJ cyZ cyB cyO aA aA_bytes vA_size vA_token vA_start vA_end vA_number cA_bytes u10 hu10) (cwV 0 hts gX6_readBasin_X6_advance rfl rfl rfl (by decide +kernel) ⟨Nat.le_of_ble_eq_true rfl, Nat.le_of_ble_eq_true rfl⟩) 1 [1, 2] [0, 1, 2, 0, 0, 0, 0, 0] [] (w_X6_readBasin cyI cyJ cyZ cyB cyO aF aA aA_bytes aF_kind aF_above aF_edge aF_pool aF_store aF_spot vF_basins vF_spring vF_hour vF_z vA_size u10.1 u10.2.1 u10.2.2 vA_number cA_bytes cF_kind cF_above cF_edge cF_pool cF_store) rfl rfl rfl rfl rfl (by decide +kernel) rfl rfl (Nat.le_of_ble_eq_true rfl) ⟨Nat.zero_le _, Nat.zero_le _⟩ dX6_readBasin_21 (fun H locs hP hD hS => ?_)
      refine lv_aload_n hx hb dX6_readBasin_24 rfl (lv_at hl 1 rfl) ?_
      refine lv_iconst (v := 0) hx hb dX6_readBasin_25 (by decide) ?_
      refine lv_aload_n hx hb dX6_readBasin_26 rfl (lv_at hl 2 rfl) ?_
      refine va_get (D := D) (ci := 2) (v := .int vF_basins) (C := RX2) (T := TX2) (N := 10) hx hb hts in_X2 hown hK hP 0 rfl rfl 6 (by decide) q1 (fun _ h9 => h9) rfl dX6_readBasin_27 ?_
      refine lv_iconst (v := 1) hx hb dX6_readBasin_30 (by decide) ?_
      refine lv_isub hx hb dX6_readBasin_31 ?_
      obtain ⟨u11, hu11, h⟩ := bd_some h
      refine cl_Vi (rest := []) F hK hP hD hS hA hl (t_X6_readNumber l D cyI cyJ cyZ cyB cyO aA aA_bytes vA_size u10.1 u10.2.1 u10.2.2 vA_number cA_bytes (0 : Int32) (vF_basins - (1 : Int32)) u11 hu11) (cwV 2 hts gX6_readBasin_X6_readNumber rfl rfl rfl (by decide +kernel) ⟨Nat.le_of_ble_eq_true rfl, Nat.le_of_ble_eq_true rfl⟩) 1 [1, 2] [0, 1, 2, 0, 0, 0, 0, 0] [] (w_X6_readBasin cyI cyJ cyZ cyB cyO aF aA aA_bytes aF_kind aF_above aF_edge aF_pool aF_store aF_spot vF_basins vF_spring vF_hour vF_z vA_size u11.2.1 u11.2.2.1 u11.2.2.2.1 u11.2.2.2.2 cA_bytes cF_kind cF_above cF_edge cF_pool cF_store) rfl rfl rfl rfl rfl (by decide +kernel) rfl rfl (Nat.le_of_ble_eq_true rfl) ⟨Nat.zero_le _, Nat.zero_le _⟩ dX6_readBasin_32 (fun H locs hP hD hS => ?_)
      refine lv_if_ne (tgt := 40) hx hb dX6_readBasin_35 (by decide) (fun c12 => ?_) (fun c12 => ?_)
      · have h := br_neg c12 h
        refine lv_aload_n hx hb dX6_readBasin_40 rfl (lv_at hl 1 rfl) ?_
        refine va_get (D := D) (ci := 5) (v := .int u11.2.2.2.2) (C := RX6) (T := TX6) (N := 6) hx hb hts in_X6 hown hK hP 1 rfl rfl 5 (by decide) q2 (fun _ h9 => h9) rfl dX6_readBasin_41 ?_
        refine lv_istore_n (lv' := [(3, .int u11.2.2.2.2), (0, .ref aA), (1, .ref aF), (2, .int x2)]) hx hb dX6_readBasin_44 rfl hl (by decide) rfl (fun ls hl => ?_)
        exact j45 u11.2.2.2.2 vF_basins u11.2.1 u11.2.2.1 u11.2.2.2.1 u11.2.2.2.2 cF_kind cF_above cF_edge cF_pool cF_store _ _ _ hP hD hS (lv_sub hl [0, 1, 2, 3] rfl) h
      · have h := br_pos c12 h
        refine lv_iconst (v := 0) hx hb dX6_readBasin_38 (by decide) ?_
        obtain rfl := Option.some.inj h
        exact hret _ _ _ _ _ hP hD hS dX6_readBasin_39 (nz_of (Or.inl rfl)) rfl
    · have h := br_pos c9 h
      refine lv_iconst (v := 0) hx hb dX6_readBasin_18 (by decide) ?_
      obtain rfl := Option.some.inj h
      exact hret _ _ _ _ _ hP hD hS dX6_readBasin_19 (nz_of (Or.inl rfl)) rfl
/-! ===== X6_readItem ===== -/
def w_X6_readItem (cyI cyJ cyZ cyB cyO : ClassId) (aA aA_bytes aF aF_kind aF_above aF_edge aF_pool aF_store aF_spot : Nat) (vA_size : Int32) (vA_token : Int32) (vA_start : Int32) (vA_end : Int32) (vA_number : Int32) (cA_bytes : Nat → Int32) (vF_basins : Int32) (vF_spring : Int32) (vF_hour : Int32) (vF_z : Int32) (cF_kind : Nat → Int32) (cF_above : Nat → Int32) (cF_edge : Nat → Int32) (cF_pool : Nat → Int32) (cF_store : Nat → Int32) : va_W := [(aA, .inr (5, [.ref aA_bytes, .int vA_size, .int vA_token, .int vA_start, .int vA_end, .int vA_number])), (aA_bytes, .inl (cyI, 120, .inl cA_bytes)), (aF, .inr (2, [.ref aF_kind, .ref aF_above, .ref aF_edge, .ref aF_pool, .ref aF_store, .ref aF_spot, .int vF_basins, .int vF_spring, .int vF_hour, .int vF_z])), (aF_kind, .inl (cyI, 10, .inl cF_kind)), (aF_above, .inl (cyI, 10, .inl cF_above)), (aF_edge, .inl (cyI, 10, .inl cF_edge)), (aF_pool, .inl (cyI, 10, .inl cF_pool)), (aF_store, .inl (cyI, 10, .inl cF_store))]
set_option maxHeartbeats 4000000 in
set_option maxRecDepth 100000 in
theorem t_X6_readItem (l : Launch) (D : va_G) (cyI cyJ cyZ cyB cyO : ClassId) (adK adV : Nat → Nat) (fm : Nat) (aA aA_bytes aF aF_kind aF_above aF_edge aF_pool aF_store aF_spot : Nat) (vA_size : Int32) (vA_token : Int32) (vA_start : Int32) (vA_end : Int32) (vA_number : Int32) (cA_bytes : Nat → Int32) (vF_basins : Int32) (vF_spring : Int32) (vF_hour : Int32) (vF_z : Int32) (cF_kind : Nat → Int32) (cF_above : Nat → Int32) (cF_edge : Nat → Int32) (cF_pool : Nat → Int32) (cF_store : Nat → Int32) (out : Int32 × Int32 × Int32 × Int32 × Int32 × Int32 × Int32 × (Nat → Int32) × (Nat → Int32) × (Nat → Int32) × (Nat → Int32) × (Nat → Int32)) (h : f_X6_readItem vA_size vA_token vA_start vA_end vA_number cA_bytes vF_basins vF_spring cF_kind cF_above cF_edge cF_pool cF_store = some out) : MiE l yX6_readItem wsX6_readItem ({ frames := 6, cells := 0, slots := 0, locals := 131 } : Room) D (tyA cyI cyJ cyZ cyB cyO) [.ref aA, .ref aF] (w_X6_readItem cyI cyJ cyZ cyB cyO aA aA_bytes aF aF_kind aF_above aF_edge aF_pool aF_store aF_spot vA_size vA_token vA_start vA_end vA_number cA_bytes vF_basins vF_spring vF_hour vF_z cF_kind cF_above cF_edge cF_pool cF_store) (w_X6_readItem cyI cyJ cyZ cyB cyO aA aA_bytes aF aF_kind aF_above aF_edge aF_pool aF_store aF_spot vA_size out.2.1 out.2.2.1 out.2.2.2.1 out.2.2.2.2.1 cA_bytes out.2.2.2.2.2.1 out.2.2.2.2.2.2.1 vF_hour vF_z out.2.2.2.2.2.2.2.1 out.2.2.2.2.2.2.2.2.1 out.2.2.2.2.2.2.2.2.2.1 out.2.2.2.2.2.2.2.2.2.2.1 out.2.2.2.2.2.2.2.2.2.2.2) out.1 adK adV fm := by
  refine MiE.mk (cc := cX6_readItem) (maxL := 3) (rt := .boolean) (own := RX6) (by decide) rfl rfl (Nat.le_of_ble_eq_true rfl) ?_
  intro p e s m args below meth c A Q F hE hK hP hD hA hret ls hl
  obtain ⟨hx, hb, hml, hown, hts⟩ := id F
  have hS : va_S A s.heap s.heap [] := va_S.rf
  have hl : lv_has ls 3 [(0, .ref aA), (1, .ref aF)] := hl
  have in_X2 : ∀ w ∈ wsX20, w ∈ wsX6_readItem := by decide +kernel
  have q2 := hts (Cond.methodLink RX6 37 yX6_isWord) (List.mem_of_getElem? (i := 2) rfl)
  have q93 := hts (Cond.methodLink RX6 44 yX6_kindTold) (List.mem_of_getElem? (i := 93) rfl)
  have q1 := hts (Cond.fieldLink RX6 48 "ThirdFountain$Fountain" "basins" "I") (List.mem_of_getElem? (i := 1) rfl)
  have q72 := hts (Cond.methodLink RX6 22 yX6_advance) (List.mem_of_getElem? (i := 72) rfl)
  have q100 := hts (Cond.methodLink RX6 53 yX6_readBasin) (List.mem_of_getElem? (i := 100) rfl)
  have q65 := hts (Cond.methodLink RX6 41 yX6_readSpring) (List.mem_of_getElem? (i := 65) rfl)
  unfold f_X6_readItem at h
  refine lv_aload_n hx hb dX6_readItem_0 rfl (lv_at hl 0 rfl) ?_
  refine va_ldcS hx hb hown (hE.2.2.2 0 (by decide)) dX6_readItem_1 ?_
  obtain ⟨u1, hu1, h⟩ := bd_some h
  refine clE_Vi (rest := []) F hE hK hP hD hS hA hl (t_X6_isWord l D cyI cyJ cyZ cyB cyO adK adV fm aA aA_bytes vA_size vA_token vA_start vA_end vA_number cA_bytes 0 (by decide) u1 hu1) (cwV 1 hts gX6_readItem_X6_isWord rfl rfl rfl (by decide +kernel) ⟨Nat.le_of_ble_eq_true rfl, Nat.le_of_ble_eq_true rfl⟩) [0, 1] [1, 2, 0, 0, 0, 0, 0, 0] [] (w_X6_readItem cyI cyJ cyZ cyB cyO aA aA_bytes aF aF_kind aF_above aF_edge aF_pool aF_store aF_spot vA_size vA_token vA_start vA_end vA_number cA_bytes vF_basins vF_spring vF_hour vF_z cF_kind cF_above cF_edge cF_pool cF_store) (va_recv hK hP (q := (RX6, TX6, 6)) (ci := 5) (q0 := 0) rfl rfl) rfl rfl rfl (by decide +kernel) rfl rfl (Nat.le_of_ble_eq_true rfl) ⟨Nat.zero_le _, Nat.zero_le _⟩ dX6_readItem_3 (fun H locs hP hD hS => ?_)
  refine lv_if_eq (tgt := 15) hx hb dX6_readItem_6 (by decide) (fun c2 => ?_) (fun c2 => ?_)
  · have h := br_pos c2 h
    refine lv_aload_n hx hb dX6_readItem_15 rfl (lv_at hl 0 rfl) ?_
    obtain ⟨u3, hu3, h⟩ := bd_some h
    refine clE_Vi (rest := []) F hE hK hP hD hS hA hl (t_X6_kindTold l D cyI cyJ cyZ cyB cyO adK adV fm aA aA_bytes vA_size vA_token vA_start vA_end vA_number cA_bytes u3 hu3) (cwV 0 hts gX6_readItem_X6_kindTold rfl rfl rfl (by decide +kernel) ⟨Nat.le_of_ble_eq_true rfl, Nat.le_of_ble_eq_true rfl⟩) [0, 1] [1, 2, 0, 0, 0, 0, 0, 0] [] (w_X6_readItem cyI cyJ cyZ cyB cyO aA aA_bytes aF aF_kind aF_above aF_edge aF_pool aF_store aF_spot vA_size vA_token vA_start vA_end vA_number cA_bytes vF_basins vF_spring vF_hour vF_z cF_kind cF_above cF_edge cF_pool cF_store) (va_recv hK hP (q := (RX6, TX6, 6)) (ci := 5) (q0 := 0) rfl rfl) rfl rfl rfl (by decide +kernel) rfl rfl (Nat.le_of_ble_eq_true rfl) ⟨Nat.zero_le _, Nat.zero_le _⟩ dX6_readItem_16 (fun H locs hP hD hS => ?_)
    refine lv_istore_n (lv' := [(2, .int u3), (0, .ref aA), (1, .ref aF)]) hx hb dX6_readItem_19 rfl hl (by decide) rfl (fun ls hl => ?_)
    refine lv_iload_n hx hb dX6_readItem_20 rfl (lv_at hl 0 rfl) ?_
    refine lv_iconst (v := -1) hx hb dX6_readItem_21 (by decide) ?_
    refine lv_icmp_eq (tgt := 34) hx hb dX6_readItem_22 (by decide) (fun c4 => ?_) (fun c4 => ?_)
    · have h := br_pos c4 h
      refine lv_iconst (v := 0) hx hb dX6_readItem_34 (by decide) ?_
      obtain rfl := Option.some.inj h
      exact hret _ _ _ _ _ hP hD hS dX6_readItem_35 (nz_of (Or.inl rfl)) rfl
    · have h := br_neg c4 h
      refine lv_aload_n hx hb dX6_readItem_25 rfl (lv_at hl 2 rfl) ?_
      refine va_get (D := D) (ci := 2) (v := .int vF_basins) (C := RX2) (T := TX2) (N := 10) hx hb hts in_X2 hown hK hP 2 rfl rfl 6 (by decide) q1 (fun _ h9 => h9) rfl dX6_readItem_26 ?_
      refine lv_bipush (v := 10) hx hb dX6_readItem_29 (by decide) ?_
      refine lv_icmp_lt (tgt := 36) hx hb dX6_readItem_31 (by decide) (fun c5 => ?_) (fun c5 => ?_)
      · have h := br_pos c5 h
        refine lv_aload_n hx hb dX6_readItem_36 rfl (lv_at hl 1 rfl) ?_
        obtain ⟨u6, hu6, h⟩ := bd_some h
        refine cl_Vv (rest := []) F hK hP hD hS hA hl (t_X6_advance l D cyI cyJ cyZ cyB cyO aA aA_bytes vA_size vA_token vA_start vA_end vA_number cA_bytes u6 hu6) (cwV 0 hts gX6_readItem_X6_advance rfl rfl rfl (by decide +kernel) ⟨Nat.le_of_ble_eq_true rfl, Nat.le_of_ble_eq_true rfl⟩) 0 [0, 1] [1, 2, 0, 0, 0, 0, 0, 0] [] (w_X6_readItem cyI cyJ cyZ cyB cyO aA aA_bytes aF aF_kind aF_above aF_edge aF_pool aF_store aF_spot vA_size u6.1 u6.2.1 u6.2.2 vA_number cA_bytes vF_basins vF_spring vF_hour vF_z cF_kind cF_above cF_edge cF_pool cF_store) rfl rfl rfl rfl rfl (by decide +kernel) rfl rfl (Nat.le_of_ble_eq_true rfl) ⟨Nat.zero_le _, Nat.zero_le _⟩ dX6_readItem_37 (fun H locs hP hD hS => ?_)
        refine lv_aload_n hx hb dX6_readItem_40 rfl (lv_at hl 1 rfl) ?_
        refine lv_aload_n hx hb dX6_readItem_41 rfl (lv_at hl 2 rfl) ?_
        refine lv_iload_n hx hb dX6_readItem_42 rfl (lv_at hl 0 rfl) ?_
        obtain ⟨u7, hu7, h⟩ := bd_some h
        refine clE_Vi (rest := []) F hE hK hP hD hS hA hl (t_X6_readBasin l D cyI cyJ cyZ cyB cyO adK adV fm aF aA aA_bytes aF_kind aF_above aF_edge aF_pool aF_store aF_spot vF_basins vF_spring vF_hour vF_z vA_size u6.1 u6.2.1 u6.2.2 vA_number cA_bytes cF_kind cF_above cF_edge cF_pool cF_store u3 u7 hu7) (cwV 2 hts gX6_readItem_X6_readBasin rfl rfl rfl (by decide +kernel) ⟨Nat.le_of_ble_eq_true rfl, Nat.le_of_ble_eq_true rfl⟩) [2, 0, 1, 3, 4, 5, 6, 7] [2, 3, 1, 4, 5, 6, 7, 8] [] (w_X6_readItem cyI cyJ cyZ cyB cyO aA aA_bytes aF aF_kind aF_above aF_edge aF_pool aF_store aF_spot vA_size u7.2.2.1 u7.2.2.2.1 u7.2.2.2.2.1 u7.2.2.2.2.2.1 cA_bytes u7.2.1 vF_spring vF_hour vF_z u7.2.2.2.2.2.2.1 u7.2.2.2.2.2.2.2.1 u7.2.2.2.2.2.2.2.2.1 u7.2.2.2.2.2.2.2.2.2.1 u7.2.2.2.2.2.2.2.2.2.2) (va_recv hK hP (q := (RX6, TX6, 6)) (ci := 5) (q0 := 0) rfl rfl) rfl rfl rfl (by decide +kernel) rfl rfl (Nat.le_of_ble_eq_true rfl) ⟨Nat.zero_le _, Nat.zero_le _⟩ dX6_readItem_43 (fun H locs hP hD hS => ?_)
        obtain ⟨g8, h⟩ := gd_some h
        obtain rfl := Option.some.inj h
        exact hret _ _ _ _ _ hP hD hS dX6_readItem_46 (nz_of g8) rfl
      · have h := br_neg c5 h
        refine lv_iconst (v := 0) hx hb dX6_readItem_34 (by decide) ?_
        obtain rfl := Option.some.inj h
        exact hret _ _ _ _ _ hP hD hS dX6_readItem_35 (nz_of (Or.inl rfl)) rfl
  · have h := br_neg c2 h
    refine lv_aload_n hx hb dX6_readItem_9 rfl (lv_at hl 0 rfl) ?_
    refine lv_aload_n hx hb dX6_readItem_10 rfl (lv_at hl 1 rfl) ?_
    obtain ⟨u9, hu9, h⟩ := bd_some h
    refine cl_Vi (rest := []) F hK hP hD hS hA hl (t_X6_readSpring l D cyI cyJ cyZ cyB cyO aA aA_bytes aF aF_kind aF_above aF_edge aF_pool aF_store aF_spot vA_size vA_token vA_start vA_end vA_number cA_bytes vF_basins vF_spring vF_hour vF_z u9 hu9) (cwV 1 hts gX6_readItem_X6_readSpring rfl rfl rfl (by decide +kernel) ⟨Nat.le_of_ble_eq_true rfl, Nat.le_of_ble_eq_true rfl⟩) 0 [0, 1, 2] [1, 2, 3, 0, 0, 0, 0, 0] [] (w_X6_readItem cyI cyJ cyZ cyB cyO aA aA_bytes aF aF_kind aF_above aF_edge aF_pool aF_store aF_spot vA_size u9.2.1 u9.2.2.1 u9.2.2.2.1 u9.2.2.2.2.1 cA_bytes vF_basins u9.2.2.2.2.2 vF_hour vF_z cF_kind cF_above cF_edge cF_pool cF_store) rfl rfl rfl rfl rfl (by decide +kernel) rfl rfl (Nat.le_of_ble_eq_true rfl) ⟨Nat.zero_le _, Nat.zero_le _⟩ dX6_readItem_11 (fun H locs hP hD hS => ?_)
    obtain ⟨g10, h⟩ := gd_some h
    obtain rfl := Option.some.inj h
    exact hret _ _ _ _ _ hP hD hS dX6_readItem_14 (nz_of g10) rfl
/-! ===== X6_read ===== -/
def w_X6_read (cyI cyJ cyZ cyB cyO : ClassId) (aA aA_bytes aF aF_kind aF_above aF_edge aF_pool aF_store aF_spot : Nat) (vA_size : Int32) (vA_token : Int32) (vA_start : Int32) (vA_end : Int32) (vA_number : Int32) (cA_bytes : Nat → Int32) (vF_basins : Int32) (vF_spring : Int32) (vF_hour : Int32) (vF_z : Int32) (cF_kind : Nat → Int32) (cF_above : Nat → Int32) (cF_edge : Nat → Int32) (cF_pool : Nat → Int32) (cF_store : Nat → Int32) : va_W := [(aA, .inr (5, [.ref aA_bytes, .int vA_size, .int vA_token, .int vA_start, .int vA_end, .int vA_number])), (aA_bytes, .inl (cyI, 120, .inl cA_bytes)), (aF, .inr (2, [.ref aF_kind, .ref aF_above, .ref aF_edge, .ref aF_pool, .ref aF_store, .ref aF_spot, .int vF_basins, .int vF_spring, .int vF_hour, .int vF_z])), (aF_kind, .inl (cyI, 10, .inl cF_kind)), (aF_above, .inl (cyI, 10, .inl cF_above)), (aF_edge, .inl (cyI, 10, .inl cF_edge)), (aF_pool, .inl (cyI, 10, .inl cF_pool)), (aF_store, .inl (cyI, 10, .inl cF_store))]
set_option maxHeartbeats 4000000 in
set_option maxRecDepth 100000 in
theorem t_X6_read (l : Launch) (D : va_G) (cyI cyJ cyZ cyB cyO : ClassId) (adK adV : Nat → Nat) (fm : Nat) (aA aA_bytes aF aF_kind aF_above aF_edge aF_pool aF_store aF_spot : Nat) (vA_size : Int32) (vA_token : Int32) (vA_start : Int32) (vA_end : Int32) (vA_number : Int32) (cA_bytes : Nat → Int32) (vF_basins : Int32) (vF_spring : Int32) (vF_hour : Int32) (vF_z : Int32) (cF_kind : Nat → Int32) (cF_above : Nat → Int32) (cF_edge : Nat → Int32) (cF_pool : Nat → Int32) (cF_store : Nat → Int32) (out : Int32 × Int32 × Int32 × Int32 × Int32 × Int32 × Int32 × (Nat → Int32) × (Nat → Int32) × (Nat → Int32) × (Nat → Int32) × (Nat → Int32)) (h : f_X6_read vA_size vA_token vA_start vA_end vA_number cA_bytes vF_basins vF_spring cF_kind cF_above cF_edge cF_pool cF_store = some out) : MiE l yX6_read wsX6_read ({ frames := 7, cells := 0, slots := 0, locals := 153 } : Room) D (tyA cyI cyJ cyZ cyB cyO) [.ref aA, .ref aF] (w_X6_read cyI cyJ cyZ cyB cyO aA aA_bytes aF aF_kind aF_above aF_edge aF_pool aF_store aF_spot vA_size vA_token vA_start vA_end vA_number cA_bytes vF_basins vF_spring vF_hour vF_z cF_kind cF_above cF_edge cF_pool cF_store) (w_X6_read cyI cyJ cyZ cyB cyO aA aA_bytes aF aF_kind aF_above aF_edge aF_pool aF_store aF_spot vA_size out.2.1 out.2.2.1 out.2.2.2.1 out.2.2.2.2.1 cA_bytes out.2.2.2.2.2.1 out.2.2.2.2.2.2.1 vF_hour vF_z out.2.2.2.2.2.2.2.1 out.2.2.2.2.2.2.2.2.1 out.2.2.2.2.2.2.2.2.2.1 out.2.2.2.2.2.2.2.2.2.2.1 out.2.2.2.2.2.2.2.2.2.2.2) out.1 adK adV fm := by
  refine MiE.mk (cc := cX6_read) (maxL := 3) (rt := .int) (own := RX6) (by decide) rfl rfl (Nat.le_of_ble_eq_true rfl) ?_
  intro p e s m args below meth c A Q F hE hK hP hD hA hret ls hl
  obtain ⟨hx, hb, hml, hown, hts⟩ := id F
  have hS : va_S A s.heap s.heap [] := va_S.rf
  have hl : lv_has ls 3 [(0, .ref aA), (1, .ref aF)] := hl
  have in_X6 : ∀ w ∈ wsX60, w ∈ wsX6_read := by decide +kernel
  have q1 := hts (Cond.fieldLink RX6 19 "ThirdFountain$Tape" "end" "I") (List.mem_of_getElem? (i := 1) rfl)
  have q4 := hts (Cond.methodLink RX6 22 yX6_advance) (List.mem_of_getElem? (i := 4) rfl)
  have q3 := hts (Cond.fieldLink RX6 32 "ThirdFountain$Tape" "start" "I") (List.mem_of_getElem? (i := 3) rfl)
  have q19 := hts (Cond.methodLink RX6 25 yX6_readItem) (List.mem_of_getElem? (i := 19) rfl)
  have q2 := hts (Cond.fieldLink RX6 29 "ThirdFountain$Tape" "token" "I") (List.mem_of_getElem? (i := 2) rfl)
  unfold f_X6_read at h
  refine lv_aload_n hx hb dX6_read_0 rfl (lv_at hl 0 rfl) ?_
  refine lv_iconst (v := 0) hx hb dX6_read_1 (by decide) ?_
  refine va_put (D := D) (ci := 5) (v := .int (0 : Int32)) (ty := .int) (C := RX6) (T := TX6) (N := 6) hx hb hts in_X6 tyX6 tyX6_ok nmX6 hown hK hP hD hS 0 rfl rfl 4 (by decide) q1 (fun _ h9 => h9) rfl (by decide +kernel) rfl rfl (Nat.le_of_ble_eq_true rfl) dX6_read_2 (fun H locs hP hD hS => ?_)
  have hP : va_P D vwCl (w_X6_read cyI cyJ cyZ cyB cyO aA aA_bytes aF aF_kind aF_above aF_edge aF_pool aF_store aF_spot vA_size vA_token vA_start (0 : Int32) vA_number cA_bytes vF_basins vF_spring vF_hour vF_z cF_kind cF_above cF_edge cF_pool cF_store) H := hP
  have hD : va_D A (w_X6_read cyI cyJ cyZ cyB cyO aA aA_bytes aF aF_kind aF_above aF_edge aF_pool aF_store aF_spot vA_size vA_token vA_start (0 : Int32) vA_number cA_bytes vF_basins vF_spring vF_hour vF_z cF_kind cF_above cF_edge cF_pool cF_store) := hD
  refine lv_aload_n hx hb dX6_read_5 rfl (lv_at hl 0 rfl) ?_
  obtain ⟨u1, hu1, h⟩ := bd_some h
  refine cl_Vv (rest := []) F hK hP hD hS hA hl (t_X6_advance l D cyI cyJ cyZ cyB cyO aA aA_bytes vA_size vA_token vA_start (0 : Int32) vA_number cA_bytes u1 hu1) (cwV 0 hts gX6_read_X6_advance rfl rfl rfl (by decide +kernel) ⟨Nat.le_of_ble_eq_true rfl, Nat.le_of_ble_eq_true rfl⟩) 0 [0, 1] [1, 2, 0, 0, 0, 0, 0, 0] [] (w_X6_read cyI cyJ cyZ cyB cyO aA aA_bytes aF aF_kind aF_above aF_edge aF_pool aF_store aF_spot vA_size u1.1 u1.2.1 u1.2.2 vA_number cA_bytes vF_basins vF_spring vF_hour vF_z cF_kind cF_above cF_edge cF_pool cF_store) rfl rfl rfl rfl rfl (by decide +kernel) rfl rfl (Nat.le_of_ble_eq_true rfl) ⟨Nat.zero_le _, Nat.zero_le _⟩ dX6_read_6 (fun H locs hP hD hS => ?_)
  refine lv_iconst (v := 1) hx hb dX6_read_9 (by decide) ?_
  refine lv_istore_n (lv' := [(2, .int (1 : Int32)), (0, .ref aA), (1, .ref aF)]) hx hb dX6_read_10 rfl hl (by decide) rfl (fun ls hl => ?_)
  have lp11 : ∀ (k11 : Nat) (y2 : Int32) (vA_token : Int32) (vA_start : Int32) (vA_end : Int32) (vA_number : Int32) (vF_basins : Int32) (vF_spring : Int32) (cF_kind : Nat → Int32) (cF_above : Nat → Int32) (cF_edge : Nat → Int32) (cF_pool : Nat → Int32) (cF_store : Nat → Int32) (H : Heap) (locs : List Loc) (ls : Array Slot), va_P D vwCl (w_X6_read cyI cyJ cyZ cyB cyO aA aA_bytes aF aF_kind aF_above aF_edge aF_pool aF_store aF_spot vA_size vA_token vA_start vA_end vA_number cA_bytes vF_basins vF_spring vF_hour vF_z cF_kind cF_above cF_edge cF_pool cF_store) H → va_D A (w_X6_read cyI cyJ cyZ cyB cyO aA aA_bytes aF aF_kind aF_above aF_edge aF_pool aF_store aF_spot vA_size vA_token vA_start vA_end vA_number cA_bytes vF_basins vF_spring vF_hour vF_z cF_kind cF_above cF_edge cF_pool cF_store) → va_S A s.heap H locs → lv_has ls 3 [(2, .int y2), (0, .ref aA), (1, .ref aF)] → (f_X6_read_L11 vA_size cA_bytes k11) (y2, vA_token, vA_start, vA_end, vA_number, vF_basins, vF_spring, cF_kind, cF_above, cF_edge, cF_pool, cF_store) = some out → W p l e ({ frames := 7, cells := 0, slots := 0, locals := 153 } : Room) s m args below meth c H locs 0 0 Q (F0 m 11 ls []) := by
    intro k11
    induction k11 with
    | zero => intro y2 vA_token vA_start vA_end vA_number vF_basins vF_spring cF_kind cF_above cF_edge cF_pool cF_store H locs ls hP hD hS hl h; cases h
    | succ k11 ih11 =>
      intro y2 vA_token vA_start vA_end vA_number vF_basins vF_spring cF_kind cF_above cF_edge cF_pool cF_store H locs ls hP hD hS hl h
      have h : f_X6_read_L11_b vA_size cA_bytes (f_X6_read_L11 vA_size cA_bytes k11) y2 vA_token vA_start vA_end vA_number vF_basins vF_spring cF_kind cF_above cF_edge cF_pool cF_store = some out := h
      unfold f_X6_read_L11_b at h
      refine lv_iload_n hx hb dX6_read_11 rfl (lv_at hl 0 rfl) ?_
      refine lv_bipush (v := 120) hx hb dX6_read_12 (by decide) ?_
      refine lv_icmp_gt (tgt := 58) hx hb dX6_read_14 (by decide) (fun c2 => ?_) (fun c2 => ?_)
      · have h := br_pos c2 h
        refine lv_iconst (v := -1) hx hb dX6_read_58 (by decide) ?_
        refine lv_aload_n hx hb dX6_read_59 rfl (lv_at hl 1 rfl) ?_
        refine va_get (D := D) (ci := 5) (v := .int vA_start) (C := RX6) (T := TX6) (N := 6) hx hb hts in_X6 hown hK hP 0 rfl rfl 3 (by decide) q3 (fun _ h9 => h9) rfl dX6_read_60 ?_
        refine lv_isub hx hb dX6_read_63 ?_
        obtain rfl := Option.some.inj h
        exact hret _ _ _ _ _ hP hD hS dX6_read_64 rfl rfl
      · have h := br_neg c2 h
        refine lv_aload_n hx hb dX6_read_17 rfl (lv_at hl 1 rfl) ?_
        refine lv_aload_n hx hb dX6_read_18 rfl (lv_at hl 2 rfl) ?_
        obtain ⟨u3, hu3, h⟩ := bd_some h
        refine clE_Vi (rest := []) F hE hK hP hD hS hA hl (t_X6_readItem l D cyI cyJ cyZ cyB cyO adK adV fm aA aA_bytes aF aF_kind aF_above aF_edge aF_pool aF_store aF_spot vA_size vA_token vA_start vA_end vA_number cA_bytes vF_basins vF_spring vF_hour vF_z cF_kind cF_above cF_edge cF_pool cF_store u3 hu3) (cwV 1 hts gX6_read_X6_readItem rfl rfl rfl (by decide +kernel) ⟨Nat.le_of_ble_eq_true rfl, Nat.le_of_ble_eq_true rfl⟩) [0, 1, 2, 3, 4, 5, 6, 7] [1, 2, 3, 4, 5, 6, 7, 8] [] (w_X6_read cyI cyJ cyZ cyB cyO aA aA_bytes aF aF_kind aF_above aF_edge aF_pool aF_store aF_spot vA_size u3.2.1 u3.2.2.1 u3.2.2.2.1 u3.2.2.2.2.1 cA_bytes u3.2.2.2.2.2.1 u3.2.2.2.2.2.2.1 vF_hour vF_z u3.2.2.2.2.2.2.2.1 u3.2.2.2.2.2.2.2.2.1 u3.2.2.2.2.2.2.2.2.2.1 u3.2.2.2.2.2.2.2.2.2.2.1 u3.2.2.2.2.2.2.2.2.2.2.2) (va_recv hK hP (q := (RX6, TX6, 6)) (ci := 5) (q0 := 0) rfl rfl) rfl rfl rfl (by decide +kernel) rfl rfl (Nat.le_of_ble_eq_true rfl) ⟨Nat.zero_le _, Nat.zero_le _⟩ dX6_read_19 (fun H locs hP hD hS => ?_)
        refine lv_if_ne (tgt := 28) hx hb dX6_read_22 (by decide) (fun c4 => ?_) (fun c4 => ?_)
        · have h := br_neg c4 h
          refine lv_aload_n hx hb dX6_read_28 rfl (lv_at hl 1 rfl) ?_
          refine va_get (D := D) (ci := 5) (v := .int u3.2.1) (C := RX6) (T := TX6) (N := 6) hx hb hts in_X6 hown hK hP 0 rfl rfl 2 (by decide) q2 (fun _ h9 => h9) rfl dX6_read_29 ?_
          refine lv_if_ne (tgt := 37) hx hb dX6_read_32 (by decide) (fun c5 => ?_) (fun c5 => ?_)
          · have h := br_neg c5 h
            refine lv_aload_n hx hb dX6_read_37 rfl (lv_at hl 1 rfl) ?_
            refine va_get (D := D) (ci := 5) (v := .int u3.2.1) (C := RX6) (T := TX6) (N := 6) hx hb hts in_X6 hown hK hP 0 rfl rfl 2 (by decide) q2 (fun _ h9 => h9) rfl dX6_read_38 ?_
            refine lv_iconst (v := 3) hx hb dX6_read_41 (by decide) ?_
            refine lv_icmp_eq (tgt := 48) hx hb dX6_read_42 (by decide) (fun c6 => ?_) (fun c6 => ?_)
            · have h := br_pos c6 h
              refine lv_aload_n hx hb dX6_read_48 rfl (lv_at hl 1 rfl) ?_
              obtain ⟨u7, hu7, h⟩ := bd_some h
              refine cl_Vv (rest := []) F hK hP hD hS hA hl (t_X6_advance l D cyI cyJ cyZ cyB cyO aA aA_bytes vA_size u3.2.1 u3.2.2.1 u3.2.2.2.1 u3.2.2.2.2.1 cA_bytes u7 hu7) (cwV 0 hts gX6_read_X6_advance rfl rfl rfl (by decide +kernel) ⟨Nat.le_of_ble_eq_true rfl, Nat.le_of_ble_eq_true rfl⟩) 0 [0, 1] [1, 2, 0, 0, 0, 0, 0, 0] [] (w_X6_read cyI cyJ cyZ cyB cyO aA aA_bytes aF aF_kind aF_above aF_edge aF_pool aF_store aF_spot vA_size u7.1 u7.2.1 u7.2.2 u3.2.2.2.2.1 cA_bytes u3.2.2.2.2.2.1 u3.2.2.2.2.2.2.1 vF_hour vF_z u3.2.2.2.2.2.2.2.1 u3.2.2.2.2.2.2.2.2.1 u3.2.2.2.2.2.2.2.2.2.1 u3.2.2.2.2.2.2.2.2.2.2.1 u3.2.2.2.2.2.2.2.2.2.2.2) rfl rfl rfl rfl rfl (by decide +kernel) rfl rfl (Nat.le_of_ble_eq_true rfl) ⟨Nat.zero_le _, Nat.zero_le _⟩ dX6_read_49 (fun H locs hP hD hS => ?_)
              refine lv_iinc (v := y2 + 1) (lv' := [(2, .int (y2 + 1)), (0, .ref aA), (1, .ref aF)]) hx hb dX6_read_52 hl (k := 0) rfl rfl (by decide) rfl (fun ls hl => ?_)
              refine lv_goto (tgt := 11) hx hb dX6_read_55 (by decide) ?_
              exact ih11 (y2 + 1) u7.1 u7.2.1 u7.2.2 u3.2.2.2.2.1 u3.2.2.2.2.2.1 u3.2.2.2.2.2.2.1 u3.2.2.2.2.2.2.2.1 u3.2.2.2.2.2.2.2.2.1 u3.2.2.2.2.2.2.2.2.2.1 u3.2.2.2.2.2.2.2.2.2.2.1 u3.2.2.2.2.2.2.2.2.2.2.2 _ _ _ hP hD hS (lv_sub hl [0, 1, 2] rfl) h
            · have h := br_neg c6 h
              refine lv_goto (tgt := 58) hx hb dX6_read_45 (by decide) ?_
              refine lv_iconst (v := -1) hx hb dX6_read_58 (by decide) ?_
              refine lv_aload_n hx hb dX6_read_59 rfl (lv_at hl 1 rfl) ?_
              refine va_get (D := D) (ci := 5) (v := .int u3.2.2.1) (C := RX6) (T := TX6) (N := 6) hx hb hts in_X6 hown hK hP 0 rfl rfl 3 (by decide) q3 (fun _ h9 => h9) rfl dX6_read_60 ?_
              refine lv_isub hx hb dX6_read_63 ?_
              obtain rfl := Option.some.inj h
              exact hret _ _ _ _ _ hP hD hS dX6_read_64 rfl rfl
          · have h := br_pos c5 h
            refine lv_iload_n hx hb dX6_read_35 rfl (lv_at hl 0 rfl) ?_
            obtain rfl := Option.some.inj h
            exact hret _ _ _ _ _ hP hD hS dX6_read_36 rfl rfl
        · have h := br_pos c4 h
          refine lv_goto (tgt := 58) hx hb dX6_read_25 (by decide) ?_
          refine lv_iconst (v := -1) hx hb dX6_read_58 (by decide) ?_
          refine lv_aload_n hx hb dX6_read_59 rfl (lv_at hl 1 rfl) ?_
          refine va_get (D := D) (ci := 5) (v := .int u3.2.2.1) (C := RX6) (T := TX6) (N := 6) hx hb hts in_X6 hown hK hP 0 rfl rfl 3 (by decide) q3 (fun _ h9 => h9) rfl dX6_read_60 ?_
          refine lv_isub hx hb dX6_read_63 ?_
          obtain rfl := Option.some.inj h
          exact hret _ _ _ _ _ hP hD hS dX6_read_64 rfl rfl
  exact lp11 FU (1 : Int32) u1.1 u1.2.1 u1.2.2 vA_number vF_basins vF_spring cF_kind cF_above cF_edge cF_pool cF_store _ _ _ hP hD hS (lv_sub hl [0, 1, 2] rfl) h
/-! ===== X7_text ===== -/
def w_X7_text (cyI cyJ cyZ cyB cyO : ClassId) (aT aT_trial aT_present aT_present_kind aT_trial_kind aT_present_above aT_trial_above aT_present_edge aT_trial_edge aT_present_pool aT_trial_pool aT_present_store aT_trial_store aT_present_spot aT_trial_spot aT_tape aT_tape_bytes aT_picture aT_flow aT_shares aT_search aT_sheets aT_usual aT_told : Nat) (vT_pictured : Int32) (vT_trial_basins : Int32) (vT_trial_spring : Int32) (vT_trial_hour : Int32) (vT_trial_z : Int32) (vT_present_basins : Int32) (vT_present_spring : Int32) (vT_present_hour : Int32) (vT_present_z : Int32) (cT_present_kind : Nat → Int32) (cT_trial_kind : Nat → Int32) (cT_present_above : Nat → Int32) (cT_trial_above : Nat → Int32) (cT_present_edge : Nat → Int32) (cT_trial_edge : Nat → Int32) (cT_present_pool : Nat → Int32) (cT_trial_pool : Nat → Int32) (cT_present_store : Nat → Int32) (cT_trial_store : Nat → Int32) (cT_present_spot : Nat → Int32) (cT_trial_spot : Nat → Int32) (vT_tape_size : Int32) (vT_tape_token : Int32) (vT_tape_start : Int32) (vT_tape_end : Int32) (vT_tape_number : Int32) (cT_tape_bytes : Nat → Int32) : va_W := [(aT, .inr (6, [.ref aT_present, .ref aT_picture, .ref aT_trial, .ref aT_flow, .ref aT_shares, .ref aT_search, .ref aT_tape, .ref aT_sheets, .ref aT_usual, .ref aT_told, .int vT_pictured])), (aT_trial, .inr (2, [.ref aT_trial_kind, .ref aT_trial_above, .ref aT_trial_edge, .ref aT_trial_pool, .ref aT_trial_store, .ref aT_trial_spot, .int vT_trial_basins, .int vT_trial_spring, .int vT_trial_hour, .int vT_trial_z])), (aT_present, .inr (2, [.ref aT_present_kind, .ref aT_present_above, .ref aT_present_edge, .ref aT_present_pool, .ref aT_present_store, .ref aT_present_spot, .int vT_present_basins, .int vT_present_spring, .int vT_present_hour, .int vT_present_z])), (aT_present_kind, .inl (cyI, 10, .inl cT_present_kind)), (aT_trial_kind, .inl (cyI, 10, .inl cT_trial_kind)), (aT_present_above, .inl (cyI, 10, .inl cT_present_above)), (aT_trial_above, .inl (cyI, 10, .inl cT_trial_above)), (aT_present_edge, .inl (cyI, 10, .inl cT_present_edge)), (aT_trial_edge, .inl (cyI, 10, .inl cT_trial_edge)), (aT_present_pool, .inl (cyI, 10, .inl cT_present_pool)), (aT_trial_pool, .inl (cyI, 10, .inl cT_trial_pool)), (aT_present_store, .inl (cyI, 10, .inl cT_present_store)), (aT_trial_store, .inl (cyI, 10, .inl cT_trial_store)), (aT_present_spot, .inl (cyI, 10, .inl cT_present_spot)), (aT_trial_spot, .inl (cyI, 10, .inl cT_trial_spot)), (aT_tape, .inr (5, [.ref aT_tape_bytes, .int vT_tape_size, .int vT_tape_token, .int vT_tape_start, .int vT_tape_end, .int vT_tape_number])), (aT_tape_bytes, .inl (cyI, 120, .inl cT_tape_bytes))]
set_option maxHeartbeats 4000000 in
set_option maxRecDepth 100000 in
theorem t_X7_text (l : Launch) (D : va_G) (cyI cyJ cyZ cyB cyO : ClassId) (adK adV : Nat → Nat) (fm : Nat) (aT aT_trial aT_present aT_present_kind aT_trial_kind aT_present_above aT_trial_above aT_present_edge aT_trial_edge aT_present_pool aT_trial_pool aT_present_store aT_trial_store aT_present_spot aT_trial_spot aT_tape aT_tape_bytes aT_picture aT_flow aT_shares aT_search aT_sheets aT_usual aT_told : Nat) (vT_pictured : Int32) (vT_trial_basins : Int32) (vT_trial_spring : Int32) (vT_trial_hour : Int32) (vT_trial_z : Int32) (vT_present_basins : Int32) (vT_present_spring : Int32) (vT_present_hour : Int32) (vT_present_z : Int32) (cT_present_kind : Nat → Int32) (cT_trial_kind : Nat → Int32) (cT_present_above : Nat → Int32) (cT_trial_above : Nat → Int32) (cT_present_edge : Nat → Int32) (cT_trial_edge : Nat → Int32) (cT_present_pool : Nat → Int32) (cT_trial_pool : Nat → Int32) (cT_present_store : Nat → Int32) (cT_trial_store : Nat → Int32) (cT_present_spot : Nat → Int32) (cT_trial_spot : Nat → Int32) (vT_tape_size : Int32) (vT_tape_token : Int32) (vT_tape_start : Int32) (vT_tape_end : Int32) (vT_tape_number : Int32) (cT_tape_bytes : Nat → Int32) (out : Int32 × Int32 × Int32 × Int32 × Int32 × Int32 × Int32 × Int32 × Int32 × (Nat → Int32) × (Nat → Int32) × (Nat → Int32) × (Nat → Int32) × (Nat → Int32) × (Nat → Int32) × (Nat → Int32) × (Nat → Int32) × (Nat → Int32) × (Nat → Int32) × (Nat → Int32) × (Nat → Int32) × Int32 × Int32 × Int32 × Int32 × Int32) (h : f_X7_text vT_trial_basins vT_trial_spring vT_trial_hour vT_trial_z vT_present_basins vT_present_spring vT_present_hour vT_present_z cT_present_kind cT_trial_kind cT_present_above cT_trial_above cT_present_edge cT_trial_edge cT_present_pool cT_trial_pool cT_present_store cT_trial_store cT_present_spot cT_trial_spot vT_tape_size vT_tape_token vT_tape_start vT_tape_end vT_tape_number cT_tape_bytes = some out) : MiE l yX7_text wsX7_text ({ frames := 8, cells := 0, slots := 0, locals := 175 } : Room) D (tyA cyI cyJ cyZ cyB cyO) [.ref aT] (w_X7_text cyI cyJ cyZ cyB cyO aT aT_trial aT_present aT_present_kind aT_trial_kind aT_present_above aT_trial_above aT_present_edge aT_trial_edge aT_present_pool aT_trial_pool aT_present_store aT_trial_store aT_present_spot aT_trial_spot aT_tape aT_tape_bytes aT_picture aT_flow aT_shares aT_search aT_sheets aT_usual aT_told vT_pictured vT_trial_basins vT_trial_spring vT_trial_hour vT_trial_z vT_present_basins vT_present_spring vT_present_hour vT_present_z cT_present_kind cT_trial_kind cT_present_above cT_trial_above cT_present_edge cT_trial_edge cT_present_pool cT_trial_pool cT_present_store cT_trial_store cT_present_spot cT_trial_spot vT_tape_size vT_tape_token vT_tape_start vT_tape_end vT_tape_number cT_tape_bytes) (w_X7_text cyI cyJ cyZ cyB cyO aT aT_trial aT_present aT_present_kind aT_trial_kind aT_present_above aT_trial_above aT_present_edge aT_trial_edge aT_present_pool aT_trial_pool aT_present_store aT_trial_store aT_present_spot aT_trial_spot aT_tape aT_tape_bytes aT_picture aT_flow aT_shares aT_search aT_sheets aT_usual aT_told vT_pictured out.2.1 out.2.2.1 out.2.2.2.1 out.2.2.2.2.1 out.2.2.2.2.2.1 out.2.2.2.2.2.2.1 out.2.2.2.2.2.2.2.1 out.2.2.2.2.2.2.2.2.1 out.2.2.2.2.2.2.2.2.2.1 out.2.2.2.2.2.2.2.2.2.2.1 out.2.2.2.2.2.2.2.2.2.2.2.1 out.2.2.2.2.2.2.2.2.2.2.2.2.1 out.2.2.2.2.2.2.2.2.2.2.2.2.2.1 out.2.2.2.2.2.2.2.2.2.2.2.2.2.2.1 out.2.2.2.2.2.2.2.2.2.2.2.2.2.2.2.1 out.2.2.2.2.2.2.2.2.2.2.2.2.2.2.2.2.1 out.2.2.2.2.2.2.2.2.2.2.2.2.2.2.2.2.2.1 out.2.2.2.2.2.2.2.2.2.2.2.2.2.2.2.2.2.2.1 out.2.2.2.2.2.2.2.2.2.2.2.2.2.2.2.2.2.2.2.1 out.2.2.2.2.2.2.2.2.2.2.2.2.2.2.2.2.2.2.2.2.1 out.2.2.2.2.2.2.2.2.2.2.2.2.2.2.2.2.2.2.2.2.2.1 out.2.2.2.2.2.2.2.2.2.2.2.2.2.2.2.2.2.2.2.2.2.2.1 out.2.2.2.2.2.2.2.2.2.2.2.2.2.2.2.2.2.2.2.2.2.2.2.1 out.2.2.2.2.2.2.2.2.2.2.2.2.2.2.2.2.2.2.2.2.2.2.2.2.1 out.2.2.2.2.2.2.2.2.2.2.2.2.2.2.2.2.2.2.2.2.2.2.2.2.2 cT_tape_bytes) out.1 adK adV fm := by
  refine MiE.mk (cc := cX7_text) (maxL := 2) (rt := .int) (own := RX7) (by decide) rfl rfl (Nat.le_of_ble_eq_true rfl) ?_
  intro p e s m args below meth c A Q F hE hK hP hD hA hret ls hl
  obtain ⟨hx, hb, hml, hown, hts⟩ := id F
  have hS : va_S A s.heap s.heap [] := va_S.rf
  have hl : lv_has ls 2 [(0, .ref aT)] := hl
  have in_X7 : ∀ w ∈ wsX70, w ∈ wsX7_text := by decide +kernel
  have in_X6 : ∀ w ∈ wsX60, w ∈ wsX7_text := by decide +kernel
  have q5 := hts (Cond.methodLink RX7 163 yX7_startTrial) (List.mem_of_getElem? (i := 5) rfl)
  have q1 := hts (Cond.fieldLink RX7 46 "ThirdFountain" "tape" "LThirdFountain$Tape;") (List.mem_of_getElem? (i := 1) rfl)
  have q2 := hts (Cond.fieldLink RX7 19 "ThirdFountain" "trial" "LThirdFountain$Fountain;") (List.mem_of_getElem? (i := 2) rfl)
  have q29 := hts (Cond.methodLink RX7 268 yX6_read) (List.mem_of_getElem? (i := 29) rfl)
  have q3 := hts (Cond.fieldLink RX7 262 "ThirdFountain$Tape" "size" "I") (List.mem_of_getElem? (i := 3) rfl)
  have q4 := hts (Cond.fieldLink RX7 12 "ThirdFountain" "present" "LThirdFountain$Fountain;") (List.mem_of_getElem? (i := 4) rfl)
  have q10 := hts (Cond.methodLink RX7 272 yX2_become) (List.mem_of_getElem? (i := 10) rfl)
  unfold f_X7_text at h
  refine lv_aload_n hx hb dX7_text_0 rfl (lv_at hl 0 rfl) ?_
  obtain ⟨u1, hu1, h⟩ := bd_some h
  refine cl_Vv (rest := []) F hK hP hD hS hA hl (t_X7_startTrial l D cyI cyJ cyZ cyB cyO aT aT_trial aT_present aT_present_kind aT_trial_kind aT_present_above aT_trial_above aT_present_edge aT_trial_edge aT_present_pool aT_trial_pool aT_present_store aT_trial_store aT_present_spot aT_trial_spot aT_picture aT_flow aT_shares aT_search aT_tape aT_sheets aT_usual aT_told vT_pictured vT_trial_basins vT_trial_spring vT_trial_hour vT_trial_z vT_present_basins vT_present_spring vT_present_hour vT_present_z cT_present_kind cT_trial_kind cT_present_above cT_trial_above cT_present_edge cT_trial_edge cT_present_pool cT_trial_pool cT_present_store cT_trial_store cT_present_spot cT_trial_spot u1 hu1) (cwV 0 hts gX7_text_X7_startTrial rfl rfl rfl (by decide +kernel) ⟨Nat.le_of_ble_eq_true rfl, Nat.le_of_ble_eq_true rfl⟩) 0 [0, 1, 2, 3, 4, 5, 6, 7, 8, 9, 10, 11, 12, 13, 14] [1, 2, 3, 4, 5, 6, 7, 8, 9, 10, 11, 12, 13, 14, 15, 0, 0] [] (w_X7_text cyI cyJ cyZ cyB cyO aT aT_trial aT_present aT_present_kind aT_trial_kind aT_present_above aT_trial_above aT_present_edge aT_trial_edge aT_present_pool aT_trial_pool aT_present_store aT_trial_store aT_present_spot aT_trial_spot aT_tape aT_tape_bytes aT_picture aT_flow aT_shares aT_search aT_sheets aT_usual aT_told vT_pictured u1.1 u1.2.1 u1.2.2.1 u1.2.2.2.1 vT_present_basins vT_present_spring vT_present_hour vT_present_z cT_present_kind u1.2.2.2.2.1 cT_present_above u1.2.2.2.2.2.1 cT_present_edge u1.2.2.2.2.2.2.1 cT_present_pool u1.2.2.2.2.2.2.2.1 cT_present_store u1.2.2.2.2.2.2.2.2.1 cT_present_spot u1.2.2.2.2.2.2.2.2.2 vT_tape_size vT_tape_token vT_tape_start vT_tape_end vT_tape_number cT_tape_bytes) rfl rfl rfl rfl rfl (by decide +kernel) rfl rfl (Nat.le_of_ble_eq_true rfl) ⟨Nat.zero_le _, Nat.zero_le _⟩ dX7_text_1 (fun H locs hP hD hS => ?_)
  refine lv_aload_n hx hb dX7_text_4 rfl (lv_at hl 0 rfl) ?_
  refine va_get (D := D) (ci := 6) (v := .ref aT_tape) (C := RX7) (T := TX7) (N := 11) hx hb hts in_X7 hown hK hP 0 rfl rfl 6 (by decide) q1 (fun _ h9 => h9) rfl dX7_text_5 ?_
  refine lv_aload_n hx hb dX7_text_8 rfl (lv_at hl 0 rfl) ?_
  refine va_get (D := D) (ci := 6) (v := .ref aT_trial) (C := RX7) (T := TX7) (N := 11) hx hb hts in_X7 hown hK hP 0 rfl rfl 2 (by decide) q2 (fun _ h9 => h9) rfl dX7_text_9 ?_
  obtain ⟨u2, hu2, h⟩ := bd_some h
  refine clE_Vi (rest := []) F hE hK hP hD hS hA hl (t_X6_read l D cyI cyJ cyZ cyB cyO adK adV fm aT_tape aT_tape_bytes aT_trial aT_trial_kind aT_trial_above aT_trial_edge aT_trial_pool aT_trial_store aT_trial_spot vT_tape_size vT_tape_token vT_tape_start vT_tape_end vT_tape_number cT_tape_bytes u1.1 u1.2.1 u1.2.2.1 u1.2.2.2.1 u1.2.2.2.2.1 u1.2.2.2.2.2.1 u1.2.2.2.2.2.2.1 u1.2.2.2.2.2.2.2.1 u1.2.2.2.2.2.2.2.2.1 u2 hu2) (cwV 1 hts gX7_text_X6_read rfl rfl rfl (by decide +kernel) ⟨Nat.le_of_ble_eq_true rfl, Nat.le_of_ble_eq_true rfl⟩) [15, 16, 1, 4, 6, 8, 10, 12] [0, 3, 0, 0, 4, 0, 5, 0, 6, 0, 7, 0, 8, 0, 0, 1, 2] [] (w_X7_text cyI cyJ cyZ cyB cyO aT aT_trial aT_present aT_present_kind aT_trial_kind aT_present_above aT_trial_above aT_present_edge aT_trial_edge aT_present_pool aT_trial_pool aT_present_store aT_trial_store aT_present_spot aT_trial_spot aT_tape aT_tape_bytes aT_picture aT_flow aT_shares aT_search aT_sheets aT_usual aT_told vT_pictured u2.2.2.2.2.2.1 u2.2.2.2.2.2.2.1 u1.2.2.1 u1.2.2.2.1 vT_present_basins vT_present_spring vT_present_hour vT_present_z cT_present_kind u2.2.2.2.2.2.2.2.1 cT_present_above u2.2.2.2.2.2.2.2.2.1 cT_present_edge u2.2.2.2.2.2.2.2.2.2.1 cT_present_pool u2.2.2.2.2.2.2.2.2.2.2.1 cT_present_store u2.2.2.2.2.2.2.2.2.2.2.2 cT_present_spot u1.2.2.2.2.2.2.2.2.2 vT_tape_size u2.2.1 u2.2.2.1 u2.2.2.2.1 u2.2.2.2.2.1 cT_tape_bytes) (va_recv hK hP (q := (RX6, TX6, 6)) (ci := 5) (q0 := 15) rfl rfl) rfl rfl rfl (by decide +kernel) rfl rfl (Nat.le_of_ble_eq_true rfl) ⟨Nat.zero_le _, Nat.zero_le _⟩ dX7_text_12 (fun H locs hP hD hS => ?_)
  refine lv_istore_n (lv' := [(1, .int u2.1), (0, .ref aT)]) hx hb dX7_text_15 rfl hl (by decide) rfl (fun ls hl => ?_)
  refine lv_aload_n hx hb dX7_text_16 rfl (lv_at hl 1 rfl) ?_
  refine va_get (D := D) (ci := 6) (v := .ref aT_tape) (C := RX7) (T := TX7) (N := 11) hx hb hts in_X7 hown hK hP 0 rfl rfl 6 (by decide) q1 (fun _ h9 => h9) rfl dX7_text_17 ?_
  refine lv_iconst (v := 0) hx hb dX7_text_20 (by decide) ?_
  refine va_put (D := D) (ci := 5) (v := .int (0 : Int32)) (ty := .int) (C := RX6) (T := TX6) (N := 6) hx hb hts in_X6 tyX6 tyX6_ok nmX6 hown hK hP hD hS 15 rfl rfl 1 (by decide) q3 (fun _ h9 => h9) rfl (by decide +kernel) rfl rfl (Nat.le_of_ble_eq_true rfl) dX7_text_21 (fun H locs hP hD hS => ?_)
  have hP : va_P D vwCl (w_X7_text cyI cyJ cyZ cyB cyO aT aT_trial aT_present aT_present_kind aT_trial_kind aT_present_above aT_trial_above aT_present_edge aT_trial_edge aT_present_pool aT_trial_pool aT_present_store aT_trial_store aT_present_spot aT_trial_spot aT_tape aT_tape_bytes aT_picture aT_flow aT_shares aT_search aT_sheets aT_usual aT_told vT_pictured u2.2.2.2.2.2.1 u2.2.2.2.2.2.2.1 u1.2.2.1 u1.2.2.2.1 vT_present_basins vT_present_spring vT_present_hour vT_present_z cT_present_kind u2.2.2.2.2.2.2.2.1 cT_present_above u2.2.2.2.2.2.2.2.2.1 cT_present_edge u2.2.2.2.2.2.2.2.2.2.1 cT_present_pool u2.2.2.2.2.2.2.2.2.2.2.1 cT_present_store u2.2.2.2.2.2.2.2.2.2.2.2 cT_present_spot u1.2.2.2.2.2.2.2.2.2 (0 : Int32) u2.2.1 u2.2.2.1 u2.2.2.2.1 u2.2.2.2.2.1 cT_tape_bytes) H := hP
  have hD : va_D A (w_X7_text cyI cyJ cyZ cyB cyO aT aT_trial aT_present aT_present_kind aT_trial_kind aT_present_above aT_trial_above aT_present_edge aT_trial_edge aT_present_pool aT_trial_pool aT_present_store aT_trial_store aT_present_spot aT_trial_spot aT_tape aT_tape_bytes aT_picture aT_flow aT_shares aT_search aT_sheets aT_usual aT_told vT_pictured u2.2.2.2.2.2.1 u2.2.2.2.2.2.2.1 u1.2.2.1 u1.2.2.2.1 vT_present_basins vT_present_spring vT_present_hour vT_present_z cT_present_kind u2.2.2.2.2.2.2.2.1 cT_present_above u2.2.2.2.2.2.2.2.2.1 cT_present_edge u2.2.2.2.2.2.2.2.2.2.1 cT_present_pool u2.2.2.2.2.2.2.2.2.2.2.1 cT_present_store u2.2.2.2.2.2.2.2.2.2.2.2 cT_present_spot u1.2.2.2.2.2.2.2.2.2 (0 : Int32) u2.2.1 u2.2.2.1 u2.2.2.2.1 u2.2.2.2.2.1 cT_tape_bytes) := hD
  refine lv_iload_n hx hb dX7_text_24 rfl (lv_at hl 0 rfl) ?_
  refine lv_if_lt (tgt := 39) hx hb dX7_text_25 (by decide) (fun c3 => ?_) (fun c3 => ?_)
  · have h := br_pos c3 h
    refine lv_iload_n hx hb dX7_text_39 rfl (lv_at hl 0 rfl) ?_
    obtain rfl := Option.some.inj h
    exact hret _ _ _ _ _ hP hD hS dX7_text_40 rfl rfl
  · have h := br_neg c3 h
    refine lv_aload_n hx hb dX7_text_28 rfl (lv_at hl 1 rfl) ?_
    refine va_get (D := D) (ci := 6) (v := .ref aT_present) (C := RX7) (T := TX7) (N := 11) hx hb hts in_X7 hown hK hP 0 rfl rfl 0 (by decide) q4 (fun _ h9 => h9) rfl dX7_text_29 ?_
    refine lv_aload_n hx hb dX7_text_32 rfl (lv_at hl 1 rfl) ?_
    refine va_get (D := D) (ci := 6) (v := .ref aT_trial) (C := RX7) (T := TX7) (N := 11) hx hb hts in_X7 hown hK hP 0 rfl rfl 2 (by decide) q2 (fun _ h9 => h9) rfl dX7_text_33 ?_
    obtain ⟨u4, hu4, h⟩ := bd_some h
    refine cl_Vv (rest := []) F hK hP hD hS hA hl (t_X2_become l D cyI cyJ cyZ cyB cyO aT_trial aT_present aT_trial_kind aT_present_kind aT_trial_above aT_present_above aT_trial_edge aT_present_edge aT_trial_pool aT_present_pool aT_trial_store aT_present_store aT_trial_spot aT_present_spot u2.2.2.2.2.2.1 u2.2.2.2.2.2.2.1 u1.2.2.1 u1.2.2.2.1 vT_present_basins vT_present_spring vT_present_hour vT_present_z u2.2.2.2.2.2.2.2.1 cT_present_kind u2.2.2.2.2.2.2.2.2.1 cT_present_above u2.2.2.2.2.2.2.2.2.2.1 cT_present_edge u2.2.2.2.2.2.2.2.2.2.2.1 cT_present_pool u2.2.2.2.2.2.2.2.2.2.2.2 cT_present_store u1.2.2.2.2.2.2.2.2.2 cT_present_spot u4 hu4) (cwV 1 hts gX7_text_X2_become rfl rfl rfl (by decide +kernel) ⟨Nat.le_of_ble_eq_true rfl, Nat.le_of_ble_eq_true rfl⟩) 2 [1, 2, 4, 3, 6, 5, 8, 7, 10, 9, 12, 11, 14, 13] [0, 1, 2, 4, 3, 6, 5, 8, 7, 10, 9, 12, 11, 14, 13, 0, 0] [] (w_X7_text cyI cyJ cyZ cyB cyO aT aT_trial aT_present aT_present_kind aT_trial_kind aT_present_above aT_trial_above aT_present_edge aT_trial_edge aT_present_pool aT_trial_pool aT_present_store aT_trial_store aT_present_spot aT_trial_spot aT_tape aT_tape_bytes aT_picture aT_flow aT_shares aT_search aT_sheets aT_usual aT_told vT_pictured u2.2.2.2.2.2.1 u2.2.2.2.2.2.2.1 u1.2.2.1 u1.2.2.2.1 u4.1 u4.2.1 u4.2.2.1 u4.2.2.2.1 u4.2.2.2.2.1 u2.2.2.2.2.2.2.2.1 u4.2.2.2.2.2.1 u2.2.2.2.2.2.2.2.2.1 u4.2.2.2.2.2.2.1 u2.2.2.2.2.2.2.2.2.2.1 u4.2.2.2.2.2.2.2.1 u2.2.2.2.2.2.2.2.2.2.2.1 u4.2.2.2.2.2.2.2.2.1 u2.2.2.2.2.2.2.2.2.2.2.2 u4.2.2.2.2.2.2.2.2.2 u1.2.2.2.2.2.2.2.2.2 (0 : Int32) u2.2.1 u2.2.2.1 u2.2.2.2.1 u2.2.2.2.2.1 cT_tape_bytes) rfl rfl rfl rfl rfl (by decide +kernel) rfl rfl (Nat.le_of_ble_eq_true rfl) ⟨Nat.zero_le _, Nat.zero_le _⟩ dX7_text_36 (fun H locs hP hD hS => ?_)
    refine lv_iload_n hx hb dX7_text_39 rfl (lv_at hl 0 rfl) ?_
    obtain rfl := Option.some.inj h
    exact hret _ _ _ _ _ hP hD hS dX7_text_40 rfl rfl
