/-! ===== X7_sheetAt ===== -/
def w_X7_sheetAt (cyI cyJ cyZ cyB cyO : ClassId) (aT aT_present aT_picture aT_trial aT_flow aT_shares aT_search aT_tape aT_sheets aT_usual aT_told a0 a1 a2 a3 : Nat) (pict : Int32) : va_W := [(aT, .inr (6, [.ref aT_present, .ref aT_picture, .ref aT_trial, .ref aT_flow, .ref aT_shares, .ref aT_search, .ref aT_tape, .ref aT_sheets, .ref aT_usual, .ref aT_told, .int pict])), (aT_sheets, .inl (cyO, 4, .inr (.inr (.inr (.inr (k_sh a0 a1 a2 a3))))))]
theorem k_within {x : Int32} : ∃ u, f_X7_within x (0 : Int32) (3 : Int32) = some u ∧ ((u = 0 ∧ ¬ k_sheet x) ∨ (u = 1 ∧ k_sheet x)) := by
  unfold f_X7_within
  by_cases h1 : x < 0
  · exact ⟨0, br_t1 h1, Or.inl ⟨rfl, fun h => h.1 h1⟩⟩
  · rw [br_f1 h1]
    by_cases h2 : 3 < x
    · exact ⟨0, br_t1 h2, Or.inl ⟨rfl, fun h => h.2 h2⟩⟩
    · rw [br_f1 h2]
      exact ⟨1, rfl, Or.inr ⟨rfl, h1, h2⟩⟩
set_option maxHeartbeats 4000000 in
set_option maxRecDepth 100000 in
theorem t_X7_sheetAt (l : Launch) (D : va_G) (cyI cyJ cyZ cyB cyO : ClassId) (aT aT_present aT_picture aT_trial aT_flow aT_shares aT_search aT_tape aT_sheets aT_usual aT_told a0 a1 a2 a3 : Nat) (pict x1 : Int32) (r : Option Nat) (hr : k_shR x1 a0 a1 a2 a3 r) : Mq l yX7_sheetAt wsX7_sheetAt ({ frames := 1, cells := 0, slots := 0, locals := 22 } : Room) D (tyA cyI cyJ cyZ cyB cyO) [.ref aT, .int x1] (w_X7_sheetAt cyI cyJ cyZ cyB cyO aT aT_present aT_picture aT_trial aT_flow aT_shares aT_search aT_tape aT_sheets aT_usual aT_told a0 a1 a2 a3 pict) (w_X7_sheetAt cyI cyJ cyZ cyB cyO aT aT_present aT_picture aT_trial aT_flow aT_shares aT_search aT_tape aT_sheets aT_usual aT_told a0 a1 a2 a3 pict) r := by
  refine Mq.mk (cc := cX7_sheetAt) (maxL := 2) (rt := "ThirdFountain$Sheet") (own := RX7) (by decide) rfl rfl (Nat.le_of_ble_eq_true rfl) ?_
  intro p e s m args below meth c A Q F hK hP hD hA hret ls hl
  obtain ⟨hx, hb, hml, hown, hts⟩ := id F
  have hS : va_S A s.heap s.heap [] := va_S.rf
  have hl : lv_has ls 2 [(0, .ref aT), (1, .int x1)] := hl
  have in_X7 : ∀ w ∈ wsX70, w ∈ wsX7_sheetAt := by decide +kernel
  have q1 := hts (Cond.fieldLink RX7 52 "ThirdFountain" "sheets" "[LThirdFountain$Sheet;") (List.mem_of_getElem? (i := 1) rfl)
  obtain ⟨u, hu, hs⟩ := k_within (x := x1)
  refine lv_iload_n hx hb dX7_sheetAt_0 rfl (lv_at hl 1 rfl) ?_
  refine lv_iconst (v := 0) hx hb dX7_sheetAt_1 (by decide) ?_
  refine lv_iconst (v := 3) hx hb dX7_sheetAt_2 (by decide) ?_
  refine cl_Si (rest := []) F hK hP hD hS hA hl (t_X7_within l D cyI cyJ cyZ cyB cyO x1 (0 : Int32) (3 : Int32) u hu) (va_cwS 3 hts gX7_sheetAt_X7_within rfl rfl rfl (by decide +kernel) ⟨Nat.le_of_ble_eq_true rfl, Nat.le_of_ble_eq_true rfl⟩) [] [0, 0] [] (w_X7_sheetAt cyI cyJ cyZ cyB cyO aT aT_present aT_picture aT_trial aT_flow aT_shares aT_search aT_tape aT_sheets aT_usual aT_told a0 a1 a2 a3 pict) rfl rfl rfl (by decide +kernel) rfl rfl (Nat.le_of_ble_eq_true rfl) ⟨Nat.zero_le _, Nat.zero_le _⟩ dX7_sheetAt_3 (fun H locs hP hD hS => ?_)
  refine lv_if_eq (tgt := 18) hx hb dX7_sheetAt_6 (by decide) (fun c1 => ?_) (fun c1 => ?_)
  · refine lv_null hx hb dX7_sheetAt_18 ?_
    have hn : ¬ k_sheet x1 := by
      rcases hs with h | h
      · exact h.2
      · exact absurd (h.1.symm.trans c1) (by decide)
    exact hret none _ _ _ _ hP hD hS dX7_sheetAt_19 (by
      rcases hr with h | h | h | h | h
      · exact absurd (by rw [h.1]; unfold k_sheet; decide) hn
      · exact absurd (by rw [h.1]; unfold k_sheet; decide) hn
      · exact absurd (by rw [h.1]; unfold k_sheet; decide) hn
      · exact absurd (by rw [h.1]; unfold k_sheet; decide) hn
      · exact h.2.symm)
  · have hy : k_sheet x1 := by
      rcases hs with h | h
      · exact absurd h.1 c1
      · exact h.2
    have hin : vp_in x1 4 := by
      rcases k_sheet_of hy with rfl | rfl | rfl | rfl <;> (unfold vp_in; decide)
    refine lv_aload_n hx hb dX7_sheetAt_9 rfl (lv_at hl 0 rfl) ?_
    refine va_get (D := D) (ci := 6) (v := .ref aT_sheets) (C := RX7) (T := TX7) (N := 11) hx hb hts in_X7 hown hK hP 0 rfl rfl 7 (by decide) q1 (fun _ h9 => h9) rfl dX7_sheetAt_10 ?_
    refine lv_iload_n hx hb dX7_sheetAt_13 rfl (lv_at hl 1 rfl) ?_
    refine va_aldq hx hb hK hP 1 4 rfl rfl hin dX7_sheetAt_14 ?_
    refine lv_goto (tgt := 19) hx hb dX7_sheetAt_15 (by decide) ?_
    exact hret (k_sh a0 a1 a2 a3 x1.toNatClampNeg) _ _ _ _ hP hD hS dX7_sheetAt_19 (by
      rcases hr with h | h | h | h | h
      · rw [h.1, h.2]; rfl
      · rw [h.1, h.2]; rfl
      · rw [h.1, h.2]; rfl
      · rw [h.1, h.2]; rfl
      · exact absurd hy h.1)
