/-! ===== cases as, feed, copy ===== -/
/-- the kind over one; 7: none -/
def ovk (c : Nat) : Nat := if c = 1 ∨ c = 2 ∨ c = 5 then 0 else if c = 3 then 1 else if c = 4 then 2 else if c = 6 then 5 else 7
def enk (c : Nat) : Int32 := if c = 7 then -1 else nI c
def rkk (c : Nat) : Nat := if c = 7 then 0 else if c = 0 then 1 else if c = 1 ∨ c = 2 ∨ c = 5 then 2 else 3
def rch (c w : Nat) : Prop := w = c ∨ w = ovk c ∨ w = ovk (ovk c)
theorem rch_s : ∀ c, c ≤ 6 → ∀ w, w ≤ 6 → w ≠ c → (rch c w ↔ rch (ovk c) w) := by
  intro c hc w hw h
  have h3 : ovk (ovk (ovk c)) = 7 := (by decide : ∀ c, c ≤ 6 → ovk (ovk (ovk c)) = 7) c hc
  unfold rch
  rw [h3]
  omega
theorem rch_8 : ∀ c, c ≤ 6 → ∀ w, w ≤ 6 → (rch c w ↔ w = 0 ∨ w = c ∨ w = (if c = 3 then 1 else if c = 4 then 2 else if c = 6 then 5 else 0)) := by
  unfold rch
  decide
theorem ovk_e : ∀ c, c ≤ 6 → f_X3_kindOver (nI c) = some (enk (ovk c)) := by
  intro c hc
  unfold f_X3_kindOver
  rcases (show c = 0 ∨ c = 1 ∨ c = 2 ∨ c = 3 ∨ c = 4 ∨ c = 5 ∨ c = 6 by omega) with rfl | rfl | rfl | rfl | rfl | rfl | rfl
  · rw [br_f1 (by decide), br_f1 (by decide), br_f1 (by decide), br_f1 (by decide), br_f1 (by decide), br_f1 (by decide)]; rfl
  · rw [br_t1 (by decide)]; rfl
  · rw [br_f1 (by decide), br_t1 (by decide)]; rfl
  · rw [br_f1 (by decide), br_f1 (by decide), br_t1 (by decide)]; rfl
  · rw [br_f1 (by decide), br_f1 (by decide), br_f1 (by decide), br_t1 (by decide)]; rfl
  · rw [br_f1 (by decide), br_f1 (by decide), br_f1 (by decide), br_f1 (by decide), br_t1 (by decide)]; rfl
  · rw [br_f1 (by decide), br_f1 (by decide), br_f1 (by decide), br_f1 (by decide), br_f1 (by decide), br_t1 (by decide)]; rfl
theorem isOf_e {c w : Nat} (hc : c ≤ 6) (hw : w ≤ 6) : f_X3_isOf (nI c) (nI w) = some (kI (rch c w)) := by
  unfold f_X3_isOf f_X3_isOf_L4
  refine lp_go2 _ (fun i (s : Int32 × Int32) => s.2 = nI i ∧ ∃ e, e ≤ 7 ∧ s.1 = enk e ∧ i + rkk e ≤ 3 ∧ (rch c w ↔ rch e w)) 3 (fun o => o = some (kI (rch c w))) ?_ _ ⟨rfl, c, by omega, ?_, ?_, Iff.rfl⟩ (FU_gt (by decide))
  rotate_left
  · unfold enk
    rw [if_neg (by omega)]
  · exact (by decide : ∀ c, c ≤ 6 → 0 + rkk c ≤ 3) c hc
  rintro i ⟨y2, y3⟩ hi ⟨a1, e, he, a2, a3, a4⟩ rc
  dsimp only at a1 a2 ⊢
  subst a1 a2
  unfold f_X3_isOf_L4_b
  rw [br_f1 (show ¬ (6 : Int32) < nI i from nI_nlt (a := 6) (by omega) (by decide))]
  by_cases h7 : e = 7
  · left
    subst h7
    rw [br_t1 (by decide), a4, kI_f]
    unfold rch
    rw [show ovk 7 = 7 from rfl, show ovk 7 = 7 from rfl]
    omega
  · have hen : enk e = nI e := if_neg h7
    rw [hen, br_f1 (nI_pos (by omega))]
    by_cases hew : e = w
    · left
      rw [br_t1 (by rw [hew]), a4, kI_t (p := rch e w) (Or.inl hew.symm)]
    · right
      rw [br_f1 (fun z => hew ((nI_eq (by omega) (by omega)).mp z)), bd_t (ovk_e e (by omega))]
      have hr : rkk (ovk e) + 1 = rkk e := (by decide : ∀ e, e ≤ 6 → rkk (ovk e) + 1 = rkk e) e (by omega)
      refine ⟨by omega, _, ?_, rfl⟩
      exact ⟨nI_1 i, ovk e, (by decide : ∀ e, e ≤ 6 → ovk e ≤ 7) e (by omega), rfl, by omega, a4.trans (rch_s e (by omega) w hw (fun z => hew z.symm))⟩
theorem above8_e : ∀ c, c ≤ 6 → f_X8_above (nI c) = some (nI (if c = 3 then 1 else if c = 4 then 2 else if c = 6 then 5 else 0)) := by
  intro c hc
  unfold f_X8_above
  rcases (show c = 0 ∨ c = 1 ∨ c = 2 ∨ c = 3 ∨ c = 4 ∨ c = 5 ∨ c = 6 by omega) with rfl | rfl | rfl | rfl | rfl | rfl | rfl
  · rw [br_f1 (by decide), br_f1 (by decide), br_f1 (by decide)]; rfl
  · rw [br_f1 (by decide), br_f1 (by decide), br_f1 (by decide)]; rfl
  · rw [br_f1 (by decide), br_f1 (by decide), br_f1 (by decide)]; rfl
  · rw [br_t1 (by decide)]; rfl
  · rw [br_f1 (by decide), br_t1 (by decide)]; rfl
  · rw [br_f1 (by decide), br_f1 (by decide), br_f1 (by decide)]; rfl
  · rw [br_f1 (by decide), br_f1 (by decide), br_t1 (by decide)]; rfl
theorem L_as (x1 x2 : Int32) (cT_present_kind : Nat → Int32) (cT_present_above : Nat → Int32) (cT_present_edge : Nat → Int32) (cT_present_pool : Nat → Int32) (cT_present_store : Nat → Int32) (cT_present_spot : Nat → Int32) (vT_present_basins : Int32) (vT_present_spring : Int32) (vT_present_hour : Int32) (vT_present_z : Int32) (vT_pictured : Int32) (cT_picture_kind : Nat → Int32) (cT_picture_above : Nat → Int32) (cT_picture_edge : Nat → Int32) (cT_picture_pool : Nat → Int32) (cT_picture_store : Nat → Int32) (cT_picture_spot : Nat → Int32) (vT_picture_basins : Int32) (vT_picture_spring : Int32) (vT_picture_hour : Int32) (vT_picture_z : Int32) (cT_told : Nat → Int32) (cT_tape_bytes : Nat → Int32) (vT_tape_size : Int32) (vT_sheets_bits : Nat → Int32) (vT_sheets_size : Nat → Int32) (cT_sheets_numbers : Nat → Nat → Int32) (cM_d : Nat → Int32) (vM_isKept : Int32) (cM_kept : Nat → Int32) (cM_found : Nat → Int32) (cM_tape : Nat → Int32) (vM_taped : Int32) (cM_bitsOf : Nat → Int32) (cM_sizeOf : Nat → Int32) (cM_number : Nat → Int32) (hI : Inv cT_present_kind cT_present_above cT_present_edge cT_present_pool cT_present_store cT_present_spot vT_present_basins vT_present_spring vT_present_hour vT_present_z vT_pictured cT_picture_kind cT_picture_above cT_picture_edge cT_picture_pool cT_picture_store cT_picture_spot vT_picture_basins vT_picture_spring vT_picture_hour vT_picture_z cT_told cT_tape_bytes vT_tape_size vT_sheets_bits vT_sheets_size cT_sheets_numbers cM_d vM_isKept cM_kept cM_found cM_tape vM_taped cM_bitsOf cM_sizeOf cM_number) : ∃ (u : Int32 × (Nat → Int32)) (v : Int32 × (Nat → Int32)), f_X7_as x1 x2 cT_told vT_present_basins cT_present_spot cT_present_kind = some u ∧ f_X8_as x1 x2 cM_found cM_d = some v ∧ u.1 = v.1 ∧ Inv cT_present_kind cT_present_above cT_present_edge cT_present_pool cT_present_store cT_present_spot vT_present_basins vT_present_spring vT_present_hour vT_present_z vT_pictured cT_picture_kind cT_picture_above cT_picture_edge cT_picture_pool cT_picture_store cT_picture_spot vT_picture_basins vT_picture_spring vT_picture_hour vT_picture_z u.2 cT_tape_bytes vT_tape_size vT_sheets_bits vT_sheets_size cT_sheets_numbers cM_d vM_isKept cM_kept v.2 cM_tape vM_taped cM_bitsOf cM_sizeOf cM_number := by
  obtain ⟨⟨f, hV, hC, hM⟩, hI2, hT, hP, hS⟩ := hI
  have hF : RF cT_present_kind cT_present_above cT_present_edge cT_present_pool cT_present_store cT_present_spot vT_present_basins vT_present_spring vT_present_hour vT_present_z cM_d := ⟨f, hV, hC, hM⟩
  have hn : f.n ≤ 10 := hV.1
  have hG : VG f := VG_of hV
  have h71 : f_X7_within x1 (0 : Int32) (9 : Int32) = some (kI (rg 0 9 x1)) := within_n (by decide) (by decide) x1
  have h81 : f_X8_in x1.toInt64 (0 : Int64) (9 : Int64) = some (kI (rg 0 9 x1)) := in_n (by decide) rfl rfl x1
  have h82 : f_X8_in x2.toInt64 (0 : Int64) (6 : Int64) = some (kI (rg 0 6 x2)) := in_n (by decide) rfl rfl x2
  unfold f_X7_as f_X8_as
  rw [bd_t h71, bd_t h81, br_kI, br_kI]
  by_cases hs : rg 0 9 x1
  rotate_left
  · rw [br_f1 hs, br_f1 hs, bd_t (tell0 _), bd_t (finds0 _)]
    exact ⟨_, _, rfl, rfl, rfl, hF, hI2, RT_tell hT 0, hP, hS⟩
  rw [br_t1 hs, br_t1 hs, bd_t (isKind_e x2), bd_t h82, br_kI, br_kI]
  by_cases hk : rg 0 6 x2
  rotate_left
  · rw [br_f1 hk, br_f1 hk, bd_t (tell0 _), bd_t (finds0 _)]
    exact ⟨_, _, rfl, rfl, rfl, hF, hI2, RT_tell hT 0, hP, hS⟩
  obtain ⟨k, -, hk9, rfl⟩ := hs
  obtain ⟨w, -, hw6, rfl⟩ := hk
  rw [br_t1 ⟨w, by omega, hw6, rfl⟩, br_t1 ⟨w, by omega, hw6, rfl⟩, gd_t (vp_in_nI (by omega) (by decide)), nm_q, nI_clamp (show k < 2 ^ 31 by omega), show (54 : Int32) + nI k = nI (54 + k) from nI_add 54 k, gd_t (vp_in_nI (by omega) (by decide)), nI_clamp (show 54 + k < 2 ^ 31 by omega)]
  have hspl : f.sp k ≤ f.n := hV.2.2.2.2 k (by omega)
  rw [hC.2.2.2.2.2 k (by omega), hM.2.2.2.2.2 k (by omega)]
  obtain rfl := hC.1
  rw [bd_t (isB7 (by omega) _), br_kI]
  by_cases h0 : f.sp k = 0
  · have hni : ¬ isb f.n (nI (f.sp k) - 1) := by
      rintro ⟨j, hj, e⟩
      have := congrArg Int32.toInt e
      rw [h0, nI_toInt (by omega), show (nI 0 - 1).toInt = -1 from rfl] at this
      omega
    rw [br_f1 hni, br_t1 (show nI (f.sp k) = 0 by rw [h0]; rfl), bd_t (tell5 _), bd_t (finds5 _)]
    exact ⟨_, _, rfl, rfl, rfl, hF, hI2, RT_tell hT 5, hP, hS⟩
  · have e1 : nI (f.sp k) - (1 : Int32) = nI (f.sp k - 1) := pk_sub (b := 1) (by omega)
    have hb : f.sp k - 1 < f.n := by omega
    obtain ⟨hkd, -, -, -, -⟩ := hV.2.1 _ hb
    rw [e1, br_t1 ⟨_, hb, rfl⟩, br_f1 (nI_ne 0 0 h0), gd_t (vp_in_nI (by omega) (by decide)), gd_t (vp_in_nI (by omega) (by decide)), nI_clamp (by omega), (hC.2.2.2.2.1 _ hb).1, nm_q, bd_t (isOf_e hkd hw6), br_kI, bd_t (its_k hM hn hb).1]
    have h8 := rch_8 (f.kd (f.sp k - 1)) hkd w hw6
    by_cases w0 : w = 0
    · rw [br_t1 (h8.mpr (Or.inl w0)), br_t1 (by rw [w0]; rfl)]
      exact ⟨_, _, rfl, rfl, rfl, hF, hI2, hT, hP, hS⟩
    rw [br_f1 (nI_ne 0 0 w0)]
    by_cases wc : w = f.kd (f.sp k - 1)
    · rw [br_t1 (h8.mpr (Or.inr (Or.inl wc))), br_t1 (by rw [wc])]
      exact ⟨_, _, rfl, rfl, rfl, hF, hI2, hT, hP, hS⟩
    rw [br_f1 (fun z => wc ((nI_eq (by omega) (by omega)).mp z)), bd_t (above8_e _ hkd)]
    by_cases wa : w = (if f.kd (f.sp k - 1) = 3 then 1 else if f.kd (f.sp k - 1) = 4 then 2 else if f.kd (f.sp k - 1) = 6 then 5 else 0)
    · rw [br_t1 (h8.mpr (Or.inr (Or.inr wa))), br_t1 (by rw [← wa])]
      exact ⟨_, _, rfl, rfl, rfl, hF, hI2, hT, hP, hS⟩
    · have hab : (if f.kd (f.sp k - 1) = 3 then 1 else if f.kd (f.sp k - 1) = 4 then 2 else if f.kd (f.sp k - 1) = 6 then 5 else 0) < 2 ^ 31 := by
        repeat' split
        all_goals decide
      have hnr : ¬ rch (f.kd (f.sp k - 1)) w := fun z => (h8.mp z).elim w0 (fun q => q.elim wc wa)
      rw [br_f1 hnr, br_f1 (fun z => wa ((nI_eq (by omega) hab).mp z)), bd_t (tell2 _), bd_t (finds2 _)]
      exact ⟨_, _, rfl, rfl, rfl, hF, hI2, RT_tell hT 2, hP, hS⟩
theorem byte_e (x : Int32) {j : Nat} (hj : j < 4) : ∃ b, b < 256 ∧ ((x.toUInt32 >>> (((8 : Int32) * nI j).toUInt32 &&& Int32.toUInt32 31)).toInt32) &&& 255 = nI b ∧ (x >>> (((8 : Int32) * nI j) &&& 31)).toInt8.toInt32 = (nI b).toInt8.toInt32 := by
  have hs : ((((8 : Int32) * nI j).toUInt32 &&& Int32.toUInt32 31).toBitVec % 32).toNat = 8 * j := by
    rcases (show j = 0 ∨ j = 1 ∨ j = 2 ∨ j = 3 by omega) with rfl | rfl | rfl | rfl <;> decide
  have hs2 : ((((8 : Int32) * nI j) &&& 31).toBitVec.smod 32).toNat = 8 * j := by
    rcases (show j = 0 ∨ j = 1 ∨ j = 2 ∨ j = 3 by omega) with rfl | rfl | rfl | rfl <;> decide
  refine ⟨x.toBitVec.toNat / 2 ^ (8 * j) % 2 ^ 8, Nat.mod_lt _ (by decide), ?_, ?_⟩
  · rw [pk_and _ 8 (by decide), pk_ushr x _ (8 * j) hs]
  · congr 1
    apply Int8.toBitVec_inj.mp
    apply BitVec.eq_of_getLsbD_eq
    intro i hi
    have hb : x.toBitVec.toNat / 2 ^ (8 * j) % 2 ^ 8 < 2 ^ 8 := Nat.mod_lt _ (by decide)
    rw [Int32.toBitVec_toInt8, Int32.toBitVec_toInt8, BitVec.getLsbD_signExtend, BitVec.getLsbD_signExtend, if_pos (by omega), if_pos (by omega), Int32.toBitVec_shiftRight, BitVec.getLsbD_sshiftRight', hs2, if_pos (by omega)]
    have e1 : x.toBitVec.getLsbD (8 * j + i) = x.toBitVec.toNat.testBit (8 * j + i) := rfl
    have e2 : (nI (x.toBitVec.toNat / 2 ^ (8 * j) % 2 ^ 8)).toBitVec.getLsbD i = (x.toBitVec.toNat / 2 ^ (8 * j) % 2 ^ 8).testBit i := by
      show (nI (x.toBitVec.toNat / 2 ^ (8 * j) % 2 ^ 8)).toBitVec.toNat.testBit i = _
      rw [pk_tn (by omega)]
    rw [e1, e2, Nat.testBit_mod_two_pow, Nat.testBit_div_two_pow, Nat.add_comm i (8 * j), decide_eq_true hi, decide_eq_false (show ¬ 32 ≤ i by omega), Bool.not_false]
theorem L_feed (x1 x2 : Int32) (cT_present_kind : Nat → Int32) (cT_present_above : Nat → Int32) (cT_present_edge : Nat → Int32) (cT_present_pool : Nat → Int32) (cT_present_store : Nat → Int32) (cT_present_spot : Nat → Int32) (vT_present_basins : Int32) (vT_present_spring : Int32) (vT_present_hour : Int32) (vT_present_z : Int32) (vT_pictured : Int32) (cT_picture_kind : Nat → Int32) (cT_picture_above : Nat → Int32) (cT_picture_edge : Nat → Int32) (cT_picture_pool : Nat → Int32) (cT_picture_store : Nat → Int32) (cT_picture_spot : Nat → Int32) (vT_picture_basins : Int32) (vT_picture_spring : Int32) (vT_picture_hour : Int32) (vT_picture_z : Int32) (cT_told : Nat → Int32) (cT_tape_bytes : Nat → Int32) (vT_tape_size : Int32) (vT_sheets_bits : Nat → Int32) (vT_sheets_size : Nat → Int32) (cT_sheets_numbers : Nat → Nat → Int32) (cM_d : Nat → Int32) (vM_isKept : Int32) (cM_kept : Nat → Int32) (cM_found : Nat → Int32) (cM_tape : Nat → Int32) (vM_taped : Int32) (cM_bitsOf : Nat → Int32) (cM_sizeOf : Nat → Int32) (cM_number : Nat → Int32) (hI : Inv cT_present_kind cT_present_above cT_present_edge cT_present_pool cT_present_store cT_present_spot vT_present_basins vT_present_spring vT_present_hour vT_present_z vT_pictured cT_picture_kind cT_picture_above cT_picture_edge cT_picture_pool cT_picture_store cT_picture_spot vT_picture_basins vT_picture_spring vT_picture_hour vT_picture_z cT_told cT_tape_bytes vT_tape_size vT_sheets_bits vT_sheets_size cT_sheets_numbers cM_d vM_isKept cM_kept cM_found cM_tape vM_taped cM_bitsOf cM_sizeOf cM_number) : ∃ (u : Int32 × Int32 × (Nat → Int32) × (Nat → Int32)) (v : Int32 × Int32 × (Nat → Int32) × (Nat → Int32)), f_X7_feed x1 x2 vT_tape_size cT_tape_bytes cT_told = some u ∧ f_X8_feed x1 x2 vM_taped cM_tape cM_found = some v ∧ u.1 = v.1 ∧ Inv cT_present_kind cT_present_above cT_present_edge cT_present_pool cT_present_store cT_present_spot vT_present_basins vT_present_spring vT_present_hour vT_present_z vT_pictured cT_picture_kind cT_picture_above cT_picture_edge cT_picture_pool cT_picture_store cT_picture_spot vT_picture_basins vT_picture_spring vT_picture_hour vT_picture_z u.2.2.2 u.2.2.1 u.2.1 vT_sheets_bits vT_sheets_size cT_sheets_numbers cM_d vM_isKept cM_kept v.2.2.2 v.2.2.1 v.2.1 cM_bitsOf cM_sizeOf cM_number := by
  obtain ⟨hF, hI2, hT, ⟨n, hn, hz7, hz8, hby⟩, hS⟩ := hI
  have h71 : f_X7_within x2 (1 : Int32) (4 : Int32) = some (kI (rg 1 4 x2)) := within_n (by decide) (by decide) x2
  have h81 : f_X8_in x2.toInt64 (1 : Int64) (4 : Int64) = some (kI (rg 1 4 x2)) := in_n (by decide) rfl rfl x2
  have hP : RP cT_tape_bytes vT_tape_size cM_tape vM_taped := ⟨n, hn, hz7, hz8, hby⟩
  unfold f_X7_feed f_X8_feed
  rw [bd_t h71, bd_t h81, br_kI, br_kI]
  by_cases hs : rg 1 4 x2
  rotate_left
  · rw [br_f1 hs, br_f1 hs, bd_t (tell0 _), bd_t (finds0 _)]
    exact ⟨_, _, rfl, rfl, rfl, hF, hI2, RT_tell hT 0, hP, hS⟩
  rw [br_t1 hs, br_t1 hs]
  obtain ⟨m, hm1, hm4, rfl⟩ := hs
  subst hz7 hz8
  rw [nI_add, show (120 : Int32) = nI 120 from rfl]
  by_cases hl : n + m ≤ 120
  rotate_left
  · rw [br_f1 (fun z => hl ((nI_leI (by omega) (by decide)).mp z)), br_f1 (fun z => hl ((nI_leI (by omega) (by decide)).mp z)), bd_t (tell1 _), bd_t (finds1 _)]
    exact ⟨_, _, rfl, rfl, rfl, hF, hI2, RT_tell hT 1, hP, hS⟩
  rw [br_t1 (nI_le hl (by decide)), br_t1 (nI_le hl (by decide)), nm_q, nm_q]
  refine two_imp (fun u v => u.1 = v.1 ∧ RP u.2.2.1 u.2.1 v.2.2.1 v.2.1 ∧ RT u.2.2.2 v.2.2.2) ?_ (fun u v e => ⟨e.1, hF, hI2, e.2.2, e.2.1, hS⟩)
  unfold f_X7_feed_L41 f_X8_feed_L39
  refine lp_two4 m (fun i s t => s.1 = nI (m - i) - 1 ∧ t.1 = nI (m - i) - 1 ∧ s.2.1 = nI (n + i) ∧ t.2.1 = nI (n + i) ∧ s.2.2.2 = cT_told ∧ t.2.2.2 = cM_found ∧ ∀ k, k < n + i → ∃ b, b < 256 ∧ s.2.2.1 k = nI b ∧ t.2.2.1 k = (nI b).toInt8.toInt32) ⟨rfl, rfl, rfl, rfl, rfl, rfl, hby⟩ (FU_gt (by omega)) ?_
  rintro i ⟨y3, z, by7, tt⟩ ⟨z3, tz, tp, fo⟩ hi ⟨a1, a2, a3, a4, a5, a6, a7⟩ rc rd
  dsimp only at a1 a2 a3 a4 a5 a6 a7 ⊢
  subst a1 a2 a3 a4 a5 a6
  unfold f_X7_feed_L41_b f_X8_feed_L39_b
  by_cases hx : i = m
  · left
    subst hx
    rw [Nat.sub_self, br_t1 (by decide), br_t1 (by decide)]
    exact ⟨_, _, rfl, rfl, rfl, ⟨n + i, hl, rfl, rfl, a7⟩, hT⟩
  · right
    refine ⟨by omega, ?_⟩
    have e1 : nI (m - i) - (1 : Int32) = nI (m - (i + 1)) := (pk_sub (b := 1) (by omega)).trans (congrArg nI (by omega))
    obtain ⟨b, hb, hb7, hb8⟩ := byte_e x1 (j := m - (i + 1)) (by omega)
    have v : vp_in (nI (n + i)) 120 := vp_in_nI (by omega) (by decide)
    rw [e1, br_f1 (nI_pos (by omega)), br_f1 (nI_pos (by omega)), hb7]
    unfold f_X6_append
    rw [br_f1 (nI_pos (by omega)), br_f1 (show ¬ (120 : Int32) ≤ nI (n + i) from nI_ge (b := 120) (by omega) (by decide)), gd_t v, gd_t v, bd_t rfl, nI_clamp (by omega), hb8, pk_vb]
    refine ⟨_, _, ?_, rfl, rfl⟩
    dsimp only
    refine ⟨(Int32.sub_eq_add_neg _ _).symm, (Int32.sub_eq_add_neg _ _).symm, nI_1 _, nI_1 _, rfl, rfl, fun k hk => ?_⟩
    by_cases e : k = n + i
    · rw [e, pk_us, pk_us]
      exact ⟨b, hb, rfl, rfl⟩
    · rw [pk_un e, pk_un e]
      exact a7 k (by omega)
