theorem ones_S {n b : Nat} (hn : n ≤ 10) (hb : b < n) (P : Nat → Prop) : cntN (fun k => tb (setI P n &&& (btI b ^^^ -1)) k = true) 10 = cntN (fun o => o ≠ b ∧ P o) n := by
  have e : ∀ k, k < 32 → (tb (setI P n &&& (btI b ^^^ -1)) k = true ↔ k ≠ b ∧ k < n ∧ P k) := by
    intro k hk
    rw [tb_and, tb_xor, tb_bt b (by omega) k hk, tb_m1 k hk, Bool.xor_true, Bool.and_eq_true, tb_setI n hn k hk, Bool.not_eq_true', decide_eq_false_iff_not]
    exact And.comm
  have e10 : cntN (fun k => tb (setI P n &&& (btI b ^^^ -1)) k = true) 10 = cntN (fun k => k ≠ b ∧ k < n ∧ P k) 10 := cntN_cong (fun k hk => e k (by omega))
  rw [e10]
  have h2 := cntN_ext (P := fun k => k ≠ b ∧ k < n ∧ P k) (n := n) (fun k hk z => absurd z.2.1 (by omega)) (10 - n)
  rw [show n + (10 - n) = 10 by omega] at h2
  rw [h2]
  exact cntN_cong (fun k hk => ⟨fun z => ⟨z.1, z.2.2⟩, fun z => ⟨z.1, hk, z.2⟩⟩)
theorem back_d {f : Fo} (hn : f.n ≤ 10) {d D E : Nat → Int32} (hM : MF f d) {j : Nat} {v w : Int32} (h1 : ∀ i, i < 64 → D i = upd d j v i) (h2 : E = upd D j w) (hw : w = d j) : ∀ i, i < 64 → E i = d i := by
  intro i hi
  rw [h2]
  by_cases e : i = j
  · rw [e, pk_us, hw]
  · rw [pk_un e, h1 i hi, pk_un e]
