/-! ===== cases: steps, count ===== -/
/-- the sum of a row, in the class -/
theorem sum7 {n : Nat} (hn : n ≤ 10) (row : Nat → Int32) : f_X2_sum row (nI n) = some (sumI row n) := by
  unfold f_X2_sum f_X2_sum_L4
  refine lp_go _ (fun i (s : Int32 × Int32) => s.1 = sumI row i ∧ s.2 = nI i) n (fun o => o = some (sumI row n)) ?_ ((0 : Int32), (0 : Int32)) ⟨rfl, rfl⟩ (FU_gt (by omega))
  rintro i ⟨a, y⟩ hi ⟨h1, h2⟩
  dsimp only at h1 h2
  subst h1 h2
  by_cases h : i = n
  · left
    intro rc
    subst h
    show f_X2_sum_L4_b row (nI i) rc (sumI row i) (nI i) = _
    unfold f_X2_sum_L4_b
    exact br_t1 (nI_le (Nat.le_refl _) (by omega))
  · right
    refine ⟨by omega, (sumI row i + row i, nI i + 1), ⟨rfl, nI_1 i⟩, fun rc => ?_⟩
    show f_X2_sum_L4_b row (nI n) rc (sumI row i) (nI i) = _
    unfold f_X2_sum_L4_b
    rw [br_f1 (nI_ge (by omega) (by omega)), gd_t (vp_in_nI (by omega) (by decide)), nm_q, nI_clamp (by omega)]
