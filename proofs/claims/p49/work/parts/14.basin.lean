/-! ===== cases: basin, under ===== -/
/-- where a new basin may come -/
def plc (n : Nat) (x : Int32) : Prop := (n = 0 ∧ x = -1) ∨ (n ≠ 0 ∧ isb n x)
theorem VF_addB {f : Fo} (h : VF f) (hn : f.n < 10) {k a : Nat} (hk : k ≤ 6) (ha : f.n ≠ 0 → a < f.n) : VF (f.addB k a) := by
  obtain ⟨h0, h1, h2, h3, h4⟩ := h
  refine ⟨by show f.n + 1 ≤ 10; omega, fun b hb => ?_, h2, h3, fun j hj => ?_⟩
  · have hb : b < f.n + 1 := hb
    show fset f.kd f.n k b ≤ 6 ∧ 1 ≤ fset f.ed f.n 1 b ∧ fset f.ed f.n 1 b ≤ 9 ∧ fset f.po f.n 0 b ≤ 30 ∧ (1 ≤ b → fset f.ab f.n a b < b)
    by_cases e : b = f.n
    · subst e
      rw [fset_s, fset_s, fset_s, fset_s]
      exact ⟨hk, by omega, by omega, by omega, fun h => ha (by omega)⟩
    · rw [fset_n e, fset_n e, fset_n e, fset_n e]
      exact h1 b (by omega)
  · exact Nat.le_succ_of_le (h4 j hj)
theorem CF_addB {f : Fo} {kind above edge pool store spot : Nat → Int32} {basins spring hour z : Int32} (h : CF f kind above edge pool store spot basins spring hour z) (k a : Nat) {x : Int32} (hx : x = abI (fset f.ab f.n a) f.n) :
    CF (f.addB k a) (upd kind f.n (nI k)) (upd above f.n x) (upd edge f.n 1) (upd pool f.n 0) (upd store f.n 0) spot (nI f.n + 1) spring hour z := by
  obtain ⟨h0, h1, h2, h3, h4, h5⟩ := h
  refine ⟨nI_1 f.n, h1, h2, h3, fun b hb => ?_, h5⟩
  have hb : b < f.n + 1 := hb
  show upd kind f.n (nI k) b = nI (fset f.kd f.n k b) ∧ upd above f.n x b = abI (fset f.ab f.n a) b ∧ upd edge f.n 1 b = nI (fset f.ed f.n 1 b) ∧ upd pool f.n 0 b = nI (fset f.po f.n 0 b) ∧ upd store f.n 0 b = fset f.st f.n 0 b
  by_cases e : b = f.n
  · subst e
    rw [pk_us, pk_us, pk_us, pk_us, pk_us, fset_s, fset_s, fset_s, fset_s]
    exact ⟨rfl, hx, rfl, rfl, rfl⟩
  · obtain ⟨a1, a2, a3, a4, a5⟩ := h4 b (by omega)
    rw [pk_un e, pk_un e, pk_un e, pk_un e, pk_un e, fset_n e, fset_n e, fset_n e, fset_n e]
    refine ⟨a1, ?_, a3, a4, a5⟩
    rw [a2]
    unfold abI
    rw [fset_n e]
theorem MF_addB {f : Fo} {d : Nat → Int32} (h : MF f d) (hn : f.n < 10) (k a : Nat) {x : Int32} (hx : x = abI (fset f.ab f.n a) f.n) :
    MF (f.addB k a) (upd (upd (upd (upd (upd (upd d 0 (nI f.n + 1)) (4 + 5 * f.n + 0) (nI k)) (4 + 5 * f.n + 1) x) (4 + 5 * f.n + 2) 1) (4 + 5 * f.n + 3) 0) (4 + 5 * f.n + 4) 0) := by
  obtain ⟨h0, h1, h2, h3, h4, h5⟩ := h
  have key : ∀ j : Nat, j ≠ 0 → (j < 4 + 5 * f.n ∨ 54 ≤ j) → upd (upd (upd (upd (upd (upd d 0 (nI f.n + 1)) (4 + 5 * f.n + 0) (nI k)) (4 + 5 * f.n + 1) x) (4 + 5 * f.n + 2) 1) (4 + 5 * f.n + 3) 0) (4 + 5 * f.n + 4) 0 j = d j := by
    intro j hj hj2
    rw [pk_un (by omega), pk_un (by omega), pk_un (by omega), pk_un (by omega), pk_un (by omega), pk_un hj]
  refine ⟨?_, (key 1 (by decide) (by omega)).trans h1, (key 2 (by decide) (by omega)).trans h2, (key 3 (by decide) (by omega)).trans h3, fun b hb => ?_, fun j hj => (key _ (by omega) (by omega)).trans (h5 j hj)⟩
  · rw [pk_un (by omega), pk_un (by omega), pk_un (by omega), pk_un (by omega), pk_un (by omega), pk_us]
    exact nI_1 f.n
  · have hb : b < f.n + 1 := hb
    show _ = nI (fset f.kd f.n k b) ∧ _ = abI (fset f.ab f.n a) b ∧ _ = nI (fset f.ed f.n 1 b) ∧ _ = nI (fset f.po f.n 0 b) ∧ _ = fset f.st f.n 0 b
    by_cases e : b = f.n
    · subst e
      rw [fset_s, fset_s, fset_s, fset_s]
      refine ⟨?_, ?_, ?_, ?_, ?_⟩
      · rw [pk_un (by omega), pk_un (by omega), pk_un (by omega), pk_un (by omega)]
        exact pk_us
      · rw [pk_un (by omega), pk_un (by omega), pk_un (by omega), pk_us]
        exact hx
      · rw [pk_un (by omega), pk_un (by omega), pk_us]
        rfl
      · rw [pk_un (by omega), pk_us]
        rfl
      · rw [pk_us]
    · obtain ⟨a1, a2, a3, a4, a5⟩ := h4 b (by omega)
      rw [fset_n e, fset_n e, fset_n e, fset_n e, key _ (by omega) (by omega), key _ (by omega) (by omega), key _ (by omega) (by omega), key _ (by omega) (by omega), key _ (by omega) (by omega)]
      refine ⟨a1, ?_, a3, a4, a5⟩
      rw [a2]
      unfold abI
      rw [fset_n e]
