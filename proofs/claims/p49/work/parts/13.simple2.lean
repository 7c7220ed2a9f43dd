/-! ===== cases: hold, status ===== -/
theorem within_m1 (x : Int32) : f_X7_within x (-1 : Int32) (6 : Int32) = some (kI (-1 ≤ x.toInt ∧ x.toInt ≤ 6)) := by
  unfold f_X7_within
  by_cases h1 : x < -1
  · rw [br_t1 h1, kI_f]
    rw [Int32.lt_iff_toInt_lt, show (-1 : Int32).toInt = -1 from rfl] at h1
    omega
  · rw [br_f1 h1]
    rw [Int32.lt_iff_toInt_lt, show (-1 : Int32).toInt = -1 from rfl] at h1
    by_cases h2 : 6 < x
    · rw [br_t1 h2, kI_f]
      rw [Int32.lt_iff_toInt_lt, show (6 : Int32).toInt = 6 from rfl] at h2
      omega
    · rw [br_f1 h2, kI_t]
      rw [Int32.lt_iff_toInt_lt, show (6 : Int32).toInt = 6 from rfl] at h2
      omega
/-- the sum of what was told -/
def sumI (g : Nat → Int32) : Nat → Int32
  | 0 => 0
  | n + 1 => sumI g n + g n
theorem sumI_cong {g h : Nat → Int32} : ∀ {n : Nat}, (∀ k, k < n → g k = h k) → sumI g n = sumI h n
  | 0, _ => rfl
  | n + 1, e => by rw [sumI, sumI, sumI_cong (fun k hk => e k (by omega)), e n (by omega)]
