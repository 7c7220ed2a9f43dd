/-! ===== the decompiled functions' words: guard, branch, name, bind, loop ===== -/
noncomputable def gd {α : Type} (p : Prop) (x : Option α) : Option α := @ite _ p (Classical.propDecidable p) x none
noncomputable def br {α : Type} (p : Prop) (x z : Option α) : Option α := @ite _ p (Classical.propDecidable p) x z
def nm {α β : Type} (e : α) (k : α → Option β) : Option β := k e
def bd {α β : Type} (x : Option α) (k : α → Option β) : Option β := x.bind k
def lp {σ α : Type} (step : (σ → Option α) → σ → Option α) : Nat → σ → Option α
  | 0, _ => none
  | k + 1, v => step (lp step k) v
def FU : Nat := 200000
theorem gd_t {α : Type} {p : Prop} {x : Option α} (h : p) : gd p x = x := by unfold gd; exact if_pos h
theorem br_t1 {α : Type} {p : Prop} {x z : Option α} (h : p) : br p x z = x := by unfold br; exact if_pos h
theorem br_f1 {α : Type} {p : Prop} {x z : Option α} (h : ¬ p) : br p x z = z := by unfold br; exact if_neg h
theorem gd_some {α : Type} {p : Prop} {x : Option α} {y : α} (h : gd p x = some y) : p ∧ x = some y := by
  by_cases hp : p
  · rw [gd_t hp] at h; exact ⟨hp, h⟩
  · unfold gd at h; rw [if_neg hp] at h; cases h
theorem br_pos {α : Type} {p : Prop} {x z : Option α} {y : α} (c : p) (h : br p x z = some y) : x = some y := by rw [br_t1 c] at h; exact h
theorem br_neg {α : Type} {p : Prop} {x z : Option α} {y : α} (c : ¬ p) (h : br p x z = some y) : z = some y := by rw [br_f1 c] at h; exact h
theorem nm_at {α β : Type} {x e : α} {k : α → Option β} {y : β} (hx : x = e) (h : nm e k = some y) : k x = some y := by rw [hx]; exact h
theorem bd_some {α β : Type} {x : Option α} {k : α → Option β} {y : β} (h : bd x k = some y) : ∃ a, x = some a ∧ k a = some y := by
  cases x with
  | none => cases h
  | some a => exact ⟨a, rfl, h⟩
theorem bd_t {α β : Type} {x : Option α} {k : α → Option β} {a : α} (h : x = some a) : bd x k = k a := by rw [h]; rfl
def kIx : List Nat := [35, 67, 69, 95, 97, 99, 101, 103, 105, 107]
def kTx : List String := ["spring", "below", "edge", "chipped", "leaking", "holy", "piped", "dammed", "flooded", "basin"]
def kLen : List Nat := [6, 5, 4, 7, 7, 4, 5, 6, 7, 5]
def kByt : List (List Int32) := [[115, 112, 114, 105, 110, 103], [98, 101, 108, 111, 119], [101, 100, 103, 101], [99, 104, 105, 112, 112, 101, 100], [108, 101, 97, 107, 105, 110, 103], [104, 111, 108, 121], [112, 105, 112, 101, 100], [100, 97, 109, 109, 101, 100], [102, 108, 111, 111, 100, 101, 100], [98, 97, 115, 105, 110]]
def k_len (k : Nat) : Int32 := (Int32.ofNat (kLen.getD k 0)) >>> ((0 : Int32) &&& 31)
def k_ch (k : Nat) (i : Int32) : Int32 := ((((kByt.getD k []).getD i.toNatClampNeg 0) &&& 255).toUInt32 % 65536).toInt32
def k_in (k : Nat) (i : Int32) : Prop := ¬ i < 0 ∧ i < Int32.ofNat (kLen.getD k 0) ∧ vp_in i (kLen.getD k 0)
def k_sheet (x : Int32) : Prop := ¬ x < 0 ∧ ¬ 3 < x
theorem k_sheet_of {x : Int32} (h : k_sheet x) : x = 0 ∨ x = 1 ∨ x = 2 ∨ x = 3 := by
  obtain ⟨j, hj, rfl⟩ := nI_of2 (M := 3) (n := 3) (by decide) h.1 (by have := h.2; exact Int32.not_lt.mp this)
  have : j = 0 ∨ j = 1 ∨ j = 2 ∨ j = 3 := by omega
  rcases this with rfl | rfl | rfl | rfl
  · exact Or.inl rfl
  · exact Or.inr (Or.inl rfl)
  · exact Or.inr (Or.inr (Or.inl rfl))
  · exact Or.inr (Or.inr (Or.inr rfl))
