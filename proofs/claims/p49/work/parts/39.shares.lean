/-! ===== cases share, rest, compare, extreme, loses ===== -/
theorem keptOf_n {k : Nat} {c : Nat × Nat} (h : bigF (lF k c) ∨ bigF (kF k c)) : keptOf k (some c) = none := by
  unfold keptOf leftOf
  show (chk (lF k c)).bind _ = none
  by_cases h1 : bigF (lF k c)
  · rw [chk_f h1]; rfl
  · rw [chk_t h1]
    exact chk_f (h.resolve_left h1)
theorem keptOf_t {k : Nat} {c : Nat × Nat} (h : ¬ (bigF (lF k c) ∨ bigF (kF k c))) : keptOf k (some c) = some (kF k c) := by
  unfold keptOf leftOf
  show (chk (lF k c)).bind _ = some (kF k c)
  rw [chk_t (fun q => h (Or.inl q))]
  exact chk_t (fun q => h (Or.inr q))
theorem onOf_n {k : Nat} {c : Nat × Nat} (h : (bigF (lF k c) ∨ bigF (kF k c)) ∨ bigF (gF k c)) : onOf k (some c) = none := by
  unfold onOf
  by_cases h1 : bigF (lF k c) ∨ bigF (kF k c)
  · rw [keptOf_n h1]; rfl
  · rw [keptOf_t h1]
    show (leftOf k (some c)).bind _ = none
    unfold leftOf
    show (chk (lF k c)).bind _ = none
    rw [chk_t (fun q => h1 (Or.inl q))]
    exact chk_f (h.resolve_left h1)
theorem onOf_t {k : Nat} {c : Nat × Nat} (h : ¬ ((bigF (lF k c) ∨ bigF (kF k c)) ∨ bigF (gF k c))) : onOf k (some c) = some (gF k c) := by
  unfold onOf
  rw [keptOf_t (fun q => h (Or.inl q))]
  show (leftOf k (some c)).bind _ = some (gF k c)
  unfold leftOf
  show (chk (lF k c)).bind _ = some (gF k c)
  rw [chk_t (fun q => h (Or.inl (Or.inl q)))]
  exact chk_t (fun q => h (Or.inr q))
/-- the way up from a basin -/
def Fo.an (f : Fo) (b : Nat) : Nat → Nat
  | 0 => b
  | k + 1 => f.ab (Fo.an f b k)
theorem none_down {f : Fo} (hV : VG f) {b : Nat} (hb : b < f.n) : ∀ k, (∀ i, i < k → 1 ≤ f.an b i) → (∀ i, i ≤ k → f.an b i ≤ b) → f.comeF (f.an b k) = none → f.comeF b = none
  | 0, _, _, h => h
  | k + 1, h1, h2, h => by
    refine none_down hV hb k (fun i hi => h1 i (by omega)) (fun i hi => h2 i (by omega)) ?_
    have hk := h1 k (by omega)
    have hkb := h2 k (by omega)
    have ha := (hV.2.1 (f.an b k) (by omega)).2.2.2.2 hk
    rw [comeF_s hk ha]
    have e : f.onF (f.ab (f.an b k)) = none := by
      have h' : f.comeF (f.ab (f.an b k)) = none := h
      unfold Fo.onF
      rw [h']
      rfl
    rw [e]
    rfl
theorem lt_m1 {m : Nat} (hm : m < 2 ^ 30) : nI (m + 1) - (2 : Int32) = nI m - 1 := by
  rw [← nI_1]
  grind
theorem cmp_3 (x y : Nat) : cmpI x y = 0 ∨ cmpI x y = 1 ∨ cmpI x y = -1 := by
  rcases Nat.lt_trichotomy x y with h | h | h
  · rw [cmpI_l h]; exact Or.inr (Or.inr rfl)
  · rw [cmpI_e h]; exact Or.inl rfl
  · rw [cmpI_g h]; exact Or.inr (Or.inl rfl)
