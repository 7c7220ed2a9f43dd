/-! ===== hours that go on, hours that are tried ===== -/
theorem start_e {f : Fo} (hn : f.n ≤ 10) {kind above edge pool store spot : Nat → Int32} {basins spring hour z : Int32} (hC : CF f kind above edge pool store spot basins spring hour z) (tb ts th tz : Int32) (tk ta te tp tst tsp : Nat → Int32) :
    ∃ k a e p s t : Nat → Int32, f_X7_startTrial tb ts th tz basins spring hour z kind tk above ta edge te pool tp store tst spot tsp = some (basins, spring, hour, z, k, a, e, p, s, t) ∧ CF f k a e p s t basins spring hour z :=
  ⟨_, _, _, _, _, _, rfl, CF_cpy hn _ _ _ _ _ _ hC⟩
theorem late_iff {h j : Nat} (hh : h ≤ 9999) (hj : j ≤ 1000) : nI h + nI j ≤ (9999 : Int32) ↔ ¬ 9999 < h + j := by
  rw [nI_add, show (9999 : Int32) = nI 9999 from rfl, nI_leI (by omega) (by decide)]
  omega
theorem late7 {h j : Nat} (hh : h ≤ 9999) (hj : j ≤ 1000) : f_X7_tooLate (nI j) (nI h) = some (kI (9999 < h + j)) := by
  unfold f_X7_tooLate
  by_cases q : 9999 < h + j
  · rw [br_f1 (fun c => (late_iff hh hj).mp c q), kI_t q]
  · rw [br_t1 ((late_iff hh hj).mpr q), kI_f q]
theorem VF_it {f : Fo} (hV : VF f) {k : Nat} (hk : f.hr + k ≤ 9999) : VF (f.it k) := by
  have h := VG_it (VG_of hV) k
  obtain ⟨s1, s2, s3, s4, s5, s6, s7, s8⟩ := it_same f k
  refine ⟨h.1, h.2.1, h.2.2, by rw [s7]; exact hk, fun j hj => by rw [s1, s5]; exact hV.2.2.2.2 j hj⟩
theorem gain_e {f : Fo} {k b : Nat} (hn : f.n ≤ 10) (hb : b < f.n) {s p : Nat → Int32} (hs : s b = (f.it k).st b) (hp : p b = f.st b) : f_X7_gain (nI b) s p = some (nI (f.gt k b)) := by
  unfold f_X7_gain
  have v : vp_in (nI b) 10 := vp_in_nI (by omega) (by decide)
  rw [gd_t v, gd_t v, nI_clamp (by omega), hs, hp, it_st, Int32.add_comm, Int32.add_sub_cancel]
