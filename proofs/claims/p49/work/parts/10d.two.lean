/-! ===== pure: two loops side by side; the reference's cells ===== -/
theorem lp_two_inv {σ α τ β : Type} (f : (σ → Option α) → σ → Option α) (g : (τ → Option β) → τ → Option β) (I : Nat → σ → τ → Prop) (n : Nat) (R : α → β → Prop)
    (h : ∀ i s t, i ≤ n → I i s t → (∃ a b, R a b ∧ (∀ rc, f rc s = some a) ∧ ∀ rc, g rc t = some b) ∨ (i < n ∧ ∃ s' t', I (i + 1) s' t' ∧ (∀ rc, f rc s = rc s') ∧ ∀ rc, g rc t = rc t')) :
    ∀ (d i : Nat) (s : σ) (t : τ) (k : Nat), n - i ≤ d → i ≤ n → I i s t → d < k → ∃ a b, lp f k s = some a ∧ lp g k t = some b ∧ R a b := by
  intro d
  induction d with
  | zero =>
    intro i s t k hd hi hI hk
    obtain ⟨k', rfl⟩ : ∃ k', k = k' + 1 := ⟨k - 1, by omega⟩
    rcases h i s t hi hI with ⟨a, b, h1, h2, h3⟩ | ⟨h1, -⟩
    · exact ⟨a, b, h2 _, h3 _, h1⟩
    · omega
  | succ d ih =>
    intro i s t k hd hi hI hk
    obtain ⟨k', rfl⟩ : ∃ k', k = k' + 1 := ⟨k - 1, by omega⟩
    rcases h i s t hi hI with ⟨a, b, h1, h2, h3⟩ | ⟨h1, s', t', hI', hs, ht⟩
    · exact ⟨a, b, h2 _, h3 _, h1⟩
    · obtain ⟨a, b, e1, e2, e3⟩ := ih (i + 1) s' t' k' (by omega) h1 hI' (by omega)
      exact ⟨a, b, (hs _).trans e1, (ht _).trans e2, e3⟩
theorem lp_two {σ α τ β : Type} (f : (σ → Option α) → σ → Option α) (g : (τ → Option β) → τ → Option β) (I : Nat → σ → τ → Prop) (n : Nat) (R : α → β → Prop)
    (h : ∀ i s t, i ≤ n → I i s t → (∃ a b, R a b ∧ (∀ rc, f rc s = some a) ∧ ∀ rc, g rc t = some b) ∨ (i < n ∧ ∃ s' t', I (i + 1) s' t' ∧ (∀ rc, f rc s = rc s') ∧ ∀ rc, g rc t = rc t'))
    (s : σ) (t : τ) (h0 : I 0 s t) (hn : n < FU) : ∃ a b, lp f FU s = some a ∧ lp g FU t = some b ∧ R a b :=
  lp_two_inv f g I n R h n 0 s t FU (by omega) (Nat.zero_le n) h0 hn
theorem ix_e (b c : Nat) : (4 : Int32) + (5 : Int32) * nI b + nI c = nI (4 + 5 * b + c) := by
  rw [show (4 : Int32) = nI 4 from rfl, show (5 : Int32) = nI 5 from rfl, pk_mul, nI_add, nI_add]
theorem isKind_e (x : Int32) : f_X3_isKind x = some (kI (rg 0 6 x)) := within_n (a := 0) (b := 6) (by decide) (by decide) x
theorem nI_z {n : Nat} (hn : n < 2 ^ 31) : nI n = 0 ↔ n = 0 := nI_eq (b := 0) hn (by decide)
/-- one more basin -/
def Fo.addB (f : Fo) (k a : Nat) : Fo := (f.n + 1, fset f.kd f.n k, fset f.ab f.n a, fset f.ed f.n 1, fset f.po f.n 0, fset f.st f.n 0, f.sp, f.sg, f.hr, f.z)
