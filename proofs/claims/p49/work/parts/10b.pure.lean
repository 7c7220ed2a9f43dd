/-! ===== pure: loops, numbers, small helpers ===== -/
theorem FU_gt {n : Nat} (h : n < 200000) : n < FU := h
theorem lp_inv {σ α : Type} (step : (σ → Option α) → σ → Option α) (I : Nat → σ → Prop) (n : Nat) (P : Option α → Prop)
    (h : ∀ i s, i ≤ n → I i s → (∀ rc, P (step rc s)) ∨ (i < n ∧ ∃ s', I (i + 1) s' ∧ ∀ rc, step rc s = rc s')) :
    ∀ (d i : Nat) (s : σ) (k : Nat), n - i ≤ d → i ≤ n → I i s → d < k → P (lp step k s) := by
  intro d
  induction d with
  | zero =>
    intro i s k hd hi hI hk
    obtain ⟨k', rfl⟩ : ∃ k', k = k' + 1 := ⟨k - 1, by omega⟩
    rcases h i s hi hI with h1 | ⟨h1, -⟩
    · exact h1 (lp step k')
    · omega
  | succ d ih =>
    intro i s k hd hi hI hk
    obtain ⟨k', rfl⟩ : ∃ k', k = k' + 1 := ⟨k - 1, by omega⟩
    rcases h i s hi hI with h1 | ⟨h1, s', hI', hs⟩
    · exact h1 (lp step k')
    · show P (step (lp step k') s)
      rw [hs]
      exact ih (i + 1) s' k' (by omega) h1 hI' (by omega)
/-- a loop that goes on to n at most, from 0 -/
theorem lp_go {σ α : Type} (step : (σ → Option α) → σ → Option α) (I : Nat → σ → Prop) (n : Nat) (P : Option α → Prop)
    (h : ∀ i s, i ≤ n → I i s → (∀ rc, P (step rc s)) ∨ (i < n ∧ ∃ s', I (i + 1) s' ∧ ∀ rc, step rc s = rc s')) (s : σ) (h0 : I 0 s) (hn : n < FU) : P (lp step FU s) :=
  lp_inv step I n P h n 0 s FU (by omega) (Nat.zero_le n) h0 hn
theorem nm_q {α β : Type} (e : α) (k : α → Option β) : nm e k = k e := rfl
noncomputable def kI (p : Prop) : Int32 := @ite _ p (Classical.propDecidable p) 1 0
theorem kI_t {p : Prop} (h : p) : kI p = 1 := by unfold kI; exact if_pos h
theorem kI_f {p : Prop} (h : ¬ p) : kI p = 0 := by unfold kI; exact if_neg h
theorem br_kI {α : Type} {p : Prop} {x z : Option α} : br (kI p = 0) x z = br p z x := by
  by_cases h : p
  · rw [kI_t h, br_f1 (by decide), br_t1 h]
  · rw [kI_f h, br_t1 rfl, br_f1 h]
theorem gd_kI {α : Type} {p : Prop} {x : Option α} : gd (kI p = 0 ∨ kI p = 1) x = x := by
  by_cases h : p
  · rw [kI_t h, gd_t (Or.inr rfl)]
  · rw [kI_f h, gd_t (Or.inl rfl)]
theorem kI_c {p q : Prop} (h : p ↔ q) : kI p = kI q := by
  by_cases hp : p
  · rw [kI_t hp, kI_t (h.mp hp)]
  · rw [kI_f hp, kI_f (fun hq => hp (h.mpr hq))]
/-- x is a number from a to b -/
def rg (a b : Nat) (x : Int32) : Prop := ∃ j : Nat, a ≤ j ∧ j ≤ b ∧ x = nI j
theorem rg_iff {a b : Nat} (hb : b < 2 ^ 31) {x : Int32} : rg a b x ↔ ((a : Int) ≤ x.toInt ∧ x.toInt ≤ b) := by
  constructor
  · rintro ⟨j, h1, h2, rfl⟩
    rw [nI_toInt (by omega)]
    omega
  · rintro ⟨h1, h2⟩
    refine ⟨x.toInt.toNat, by omega, by omega, ?_⟩
    rw [← Int32.toInt_inj, nI_toInt (by omega)]
    omega
theorem within_n {a b : Nat} (hb : b < 2 ^ 31) (hab : a < 2 ^ 31) (x : Int32) : f_X7_within x (nI a) (nI b) = some (kI (rg a b x)) := by
  unfold f_X7_within
  by_cases h1 : x < nI a
  · rw [br_t1 h1, kI_f]
    rw [rg_iff hb]
    rw [Int32.lt_iff_toInt_lt, nI_toInt hab] at h1
    omega
  · rw [br_f1 h1]
    by_cases h2 : nI b < x
    · rw [br_t1 h2, kI_f]
      rw [rg_iff hb]
      rw [Int32.lt_iff_toInt_lt, nI_toInt hb] at h2
      omega
    · rw [br_f1 h2, kI_t]
      rw [rg_iff hb]
      rw [Int32.lt_iff_toInt_lt, nI_toInt hab] at h1
      rw [Int32.lt_iff_toInt_lt, nI_toInt hb] at h2
      omega
theorem lgc_lt (x y : Int64) : lg_cmp x y < 0 ↔ x.toInt < y.toInt := by
  unfold lg_cmp
  by_cases h1 : x > y
  · rw [if_pos h1]
    have h2 : y.toInt < x.toInt := Int64.lt_iff_toInt_lt.mp h1
    constructor
    · intro h; exact absurd h (by decide)
    · intro h; omega
  · rw [if_neg h1]
    by_cases h3 : x = y
    · rw [if_pos h3, h3]
      constructor
      · intro h; exact absurd h (by decide)
      · intro h; omega
    · rw [if_neg h3]
      have h2 : ¬ y.toInt < x.toInt := fun h => h1 (Int64.lt_iff_toInt_lt.mpr h)
      have h4 : ¬ x.toInt = y.toInt := fun h => h3 (Int64.toInt_inj.mp h)
      constructor
      · intro _; omega
      · intro _; decide
theorem lgc_gt (x y : Int64) : 0 < lg_cmp x y ↔ y.toInt < x.toInt := by
  unfold lg_cmp
  by_cases h1 : x > y
  · rw [if_pos h1]
    have h2 : y.toInt < x.toInt := Int64.lt_iff_toInt_lt.mp h1
    exact ⟨fun _ => h2, fun _ => by decide⟩
  · rw [if_neg h1]
    have h2 : ¬ y.toInt < x.toInt := fun h => h1 (Int64.lt_iff_toInt_lt.mpr h)
    by_cases h3 : x = y
    · rw [if_pos h3]
      exact ⟨fun h => absurd h (by decide), fun h => absurd h h2⟩
    · rw [if_neg h3]
      exact ⟨fun h => absurd h (by decide), fun h => absurd h h2⟩
/-- x is one of the n basins -/
def isb (n : Nat) (x : Int32) : Prop := ∃ j : Nat, j < n ∧ x = nI j
theorem isb_iff {n : Nat} (hn : n < 2 ^ 31) {x : Int32} : isb n x ↔ (0 ≤ x.toInt ∧ x.toInt < n) := by
  constructor
  · rintro ⟨j, h2, rfl⟩
    rw [nI_toInt (by omega)]
    omega
  · rintro ⟨h1, h2⟩
    refine ⟨x.toInt.toNat, by omega, ?_⟩
    rw [← Int32.toInt_inj, nI_toInt (by omega)]
    omega
theorem isB7 {n : Nat} (hn : n < 2 ^ 31) (x : Int32) : f_X7_isBasin x (nI n) = some (kI (isb n x)) := by
  unfold f_X7_isBasin
  by_cases h1 : x < 0
  · rw [br_t1 h1, kI_f]
    rw [isb_iff hn]
    rw [Int32.lt_iff_toInt_lt, show (0 : Int32).toInt = 0 from rfl] at h1
    omega
  · rw [br_f1 h1]
    rw [Int32.lt_iff_toInt_lt, show (0 : Int32).toInt = 0 from rfl] at h1
    by_cases h2 : nI n ≤ x
    · rw [br_t1 h2, kI_f]
      rw [isb_iff hn]
      rw [Int32.le_iff_toInt_le, nI_toInt hn] at h2
      omega
    · rw [br_f1 h2, kI_t]
      rw [isb_iff hn]
      rw [Int32.le_iff_toInt_le, nI_toInt hn] at h2
      omega
theorem tell_e (k : Nat) (hk : k < 7) (told : Nat → Int32) : f_X7_tell (-1000001 - nI k) told = some (-1000001 - nI k, upd told k (told k + 1)) := by
  rcases (show k = 0 ∨ k = 1 ∨ k = 2 ∨ k = 3 ∨ k = 4 ∨ k = 5 ∨ k = 6 by omega) with rfl | rfl | rfl | rfl | rfl | rfl | rfl <;>
  · unfold f_X7_tell
    rw [nm_q, br_f1 (by decide), br_f1 (by decide), gd_t (by unfold vp_in; decide), gd_t (by unfold vp_in; decide)]
    rfl
theorem RT_tell {told found : Nat → Int32} (h : RT told found) (k : Nat) : RT (upd told k (told k + 1)) (upd found k (found k + 1)) := by
  intro j hj
  by_cases e : j = k
  · rw [e, pk_us, pk_us]
    by_cases hk : k < 7
    · rw [h k hk]
    · omega
  · rw [pk_un e, pk_un e, h j hj]
