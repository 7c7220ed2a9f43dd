/-! ===== cases: write, sheet, load ===== -/
theorem k_sheet_iff {x : Int32} : k_sheet x ↔ rg 0 3 x := by
  rw [rg_iff (by decide)]
  unfold k_sheet
  rw [Int32.lt_iff_toInt_lt, Int32.lt_iff_toInt_lt, show (0 : Int32).toInt = 0 from rfl, show (3 : Int32).toInt = 3 from rfl]
  omega
theorem isMissing_0 {x : Int32} (h : x = 0) : f_X5_isMissing x = some 1 := by unfold f_X5_isMissing; exact br_t1 h
theorem isMissing_1 {x : Int32} (h : ¬ x = 0) : f_X5_isMissing x = some 0 := by unfold f_X5_isMissing; exact br_f1 h
theorem ix40 (t k : Nat) : (40 : Int32) * nI t + nI k = nI (40 * t + k) := by
  rw [show (40 : Int32) = nI 40 from rfl, pk_mul, nI_add]
theorem va_up_s {α : Type} {g : Nat → α} {b : Nat} {v : α} : va_up g b v b = v := if_pos rfl
theorem va_up_n {α : Type} {g : Nat → α} {b j : Nat} {v : α} (h : j ≠ b) : va_up g b v j = g j := if_neg h
theorem RS_write {bits size : Nat → Int32} {numbers : Nat → Nat → Int32} {bitsOf sizeOf number : Nat → Int32} (h : RS bits size numbers bitsOf sizeOf number) {t k : Nat} (ht : t < 4) (hk : k < 40) (v : Int32) :
    RS bits size (va_up numbers t (upd (numbers t) k v)) bitsOf sizeOf (upd number (40 * t + k) v) := by
  intro u hu
  obtain ⟨h1, h2, h3, h4⟩ := h u hu
  refine ⟨h1, h2, h3, fun j hj => ?_⟩
  by_cases e : u = t
  · subst e
    rw [va_up_s]
    by_cases e2 : j = k
    · rw [e2, pk_us, pk_us]
    · rw [pk_un e2, pk_un (by omega), h4 j hj]
  · rw [va_up_n e, pk_un (by omega), h4 j hj]
theorem begin_e (b z : Int32) (b0 z0 : Int32) (nu : Nat → Int32) : ∃ c : Nat → Int32, f_X5_begin b z b0 z0 nu = some (b, z, c) ∧ ∀ k, k < 40 → c k = 0 := by
  unfold f_X5_begin f_X5_begin_L12
  refine lp_go _ (fun i (s : Int32 × Int32 × Int32 × (Nat → Int32)) => s.1 = nI i ∧ s.2.1 = b ∧ s.2.2.1 = z ∧ ∀ k, k < i → s.2.2.2 k = 0) 40 (fun o => ∃ c : Nat → Int32, o = some (b, z, c) ∧ ∀ k, k < 40 → c k = 0) ?_ ((0 : Int32), b, z, nu) ⟨rfl, rfl, rfl, fun k hk => absurd hk (by omega)⟩ (FU_gt (by decide))
  rintro i ⟨y, b1, z1, c⟩ hi ⟨h1, h2, h3, h4⟩
  dsimp only at h1 h2 h3 h4
  subst h1 h2 h3
  by_cases h : i = 40
  · left
    intro rc
    subst h
    refine ⟨c, ?_, h4⟩
    show f_X5_begin_L12_b b1 z1 rc (nI 40) b1 z1 c = _
    unfold f_X5_begin_L12_b
    exact br_t1 (by decide)
  · right
    refine ⟨by omega, (nI i + 1, b1, z1, upd c i 0), ⟨nI_1 i, rfl, rfl, fun k hk => ?_⟩, fun rc => ?_⟩
    · show upd c i 0 k = 0
      by_cases e : k = i
      · rw [e, pk_us]
      · rw [pk_un e, h4 k (by omega)]
    · show f_X5_begin_L12_b b1 z1 rc (nI i) b1 z1 c = _
      unfold f_X5_begin_L12_b
      rw [br_f1 (show ¬ (40 : Int32) ≤ nI i from nI_ge (a := i) (b := 40) (by omega) (by decide)), gd_t (vp_in_nI (by omega) (by decide)), nI_clamp (by omega)]
theorem RS_begin {bits size : Nat → Int32} {numbers : Nat → Nat → Int32} {bitsOf sizeOf number : Nat → Int32} (h : RS bits size numbers bitsOf sizeOf number) {t n : Nat} (ht : t < 4) (hn : n ≤ 40) {b : Int32} (hb : b = 0 ∨ b = 8 ∨ b = 16 ∨ b = 32) {c c2 : Nat → Int32} (hc : ∀ k, k < 40 → c k = 0) (hc2 : ∀ k, k < 40 → c2 (40 * t + k) = 0) (hc3 : ∀ j, (j < 40 * t ∨ 40 * t + 40 ≤ j) → c2 j = number j) :
    RS (va_up bits t b) (va_up size t (nI n)) (va_up numbers t c) (upd bitsOf t b) (upd sizeOf t (nI n)) c2 := by
  intro u hu
  obtain ⟨h1, h2, h3, h4⟩ := h u hu
  by_cases e : u = t
  · subst e
    rw [va_up_s, va_up_s, va_up_s, pk_us, pk_us]
    exact ⟨rfl, hb, ⟨n, hn, rfl, rfl⟩, fun k hk => (hc k hk).trans (hc2 k hk).symm⟩
  · rw [va_up_n e, va_up_n e, va_up_n e, pk_un e, pk_un e]
    exact ⟨h1, h2, h3, fun k hk => (h4 k hk).trans (hc3 _ (by omega)).symm⟩
