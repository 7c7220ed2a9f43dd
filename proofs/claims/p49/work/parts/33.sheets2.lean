/-! ===== cases sheet, load, judge, as, feed, copy ===== -/
theorem br4_t {α : Type} {x : Int32} {J Z : Option α} (h : x = 0 ∨ x = 8 ∨ x = 16 ∨ x = 32) : br (x = 0) J (br (x = 8) J (br (x = 16) J (br (x = 32) J Z))) = J := by
  rcases h with h | h | h | h
  · rw [br_t1 h]
  · rw [h, br_f1 (by decide), br_t1 rfl]
  · rw [h, br_f1 (by decide), br_f1 (by decide), br_t1 rfl]
  · rw [h, br_f1 (by decide), br_f1 (by decide), br_f1 (by decide), br_t1 rfl]
theorem br4_f {α : Type} {x : Int32} {J Z : Option α} (h : ¬ (x = 0 ∨ x = 8 ∨ x = 16 ∨ x = 32)) : br (x = 0) J (br (x = 8) J (br (x = 16) J (br (x = 32) J Z))) = Z := by
  rw [br_f1 (fun q => h (Or.inl q)), br_f1 (fun q => h (Or.inr (Or.inl q))), br_f1 (fun q => h (Or.inr (Or.inr (Or.inl q)))), br_f1 (fun q => h (Or.inr (Or.inr (Or.inr q))))]
