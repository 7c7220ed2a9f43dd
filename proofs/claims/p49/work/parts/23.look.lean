/-! ===== an hour's flow: the reference ===== -/
theorem abI_eq {f : Fo} {o b : Nat} (hb : b < 10) (hab : 1 ≤ o → f.ab o < 10) : abI f.ab o = nI b ↔ 1 ≤ o ∧ f.ab o = b := by
  by_cases h0 : o = 0
  · subst h0
    rw [abI_0]
    constructor
    · intro h
      have := congrArg Int32.toInt h
      rw [nI_toInt (by omega), show (-1 : Int32).toInt = -1 from rfl] at this
      omega
    · intro h; omega
  · have := hab (by omega)
    rw [abI_s _ h0, nI_eq (by omega) (by omega)]
    constructor
    · intro h; exact ⟨by omega, h⟩
    · intro h; exact h.2
theorem wdP_0 {f : Fo} (hV : VG f) {b : Nat} : ∀ i, i ≤ b + 1 → i ≤ f.n → f.wdP i b = 0 := by
  intro i h1 h2
  exact sumN_zero.mpr (fun o ho => if_neg (fun c => by have := (hV.2.1 o (by omega)).2.2.2.2 c.1; omega))
theorem chP_0 {f : Fo} (hV : VG f) {b : Nat} : ∀ i, i ≤ b + 1 → i ≤ f.n → f.chP i b = 0 := by
  intro i h1 h2
  exact sumN_zero.mpr (fun o ho => if_neg (fun c => by have := (hV.2.1 o (by omega)).2.2.2.2 c.1; omega))
/-- what came is right for those whose one above has been gone through -/
def okC (f : Fo) (i : Nat) (came : Nat → Int32) : Prop := ∀ o, o < f.n → (o = 0 ∨ f.ab o < i) → came o = nI (f.cm o)
