/-! ===== cases even, truly, judge ===== -/
def fst1 (P : Nat → Prop) (n j : Nat) : Prop := j < n ∧ P j ∧ ∀ i, i < j → ¬ P i
theorem fst1_u {P : Nat → Prop} {n j k : Nat} (h : fst1 P n j) (h2 : fst1 P n k) : j = k := by
  rcases Nat.lt_trichotomy j k with q | q | q
  · exact absurd h.2.1 (h2.2.2 j q)
  · exact q
  · exact absurd h2.2.1 (h.2.2 k q)
/-- a found one, or none: what a search answers and tells -/
def srch (P : Nat → Prop) (n : Nat) (A : Nat → Prop) (B : Prop) : Prop := (∃ j, fst1 P n j ∧ A j) ∨ ((∀ i, i < n → ¬ P i) ∧ B)
theorem srch_2 {P : Nat → Prop} {n : Nat} {A A' : Nat → Prop} {B B' : Prop} (h : srch P n A B) (h2 : srch P n A' B') : (∃ j, fst1 P n j ∧ A j ∧ A' j) ∨ (B ∧ B') := by
  rcases h with ⟨j, hj, hA⟩ | ⟨h0, hB⟩
  · rcases h2 with ⟨k, hk, hA'⟩ | ⟨h0', -⟩
    · have := fst1_u hj hk
      subst this
      exact Or.inl ⟨j, hj, hA, hA'⟩
    · exact absurd hj.2.1 (h0' j hj.1)
  · rcases h2 with ⟨k, hk, -⟩ | ⟨-, hB'⟩
    · exact absurd hk.2.1 (h0 k hk.1)
    · exact Or.inr ⟨hB, hB'⟩
theorem not_s {P : Nat → Prop} {i : Nat} (h : ∀ j, j < i → ¬ P j) (h2 : ¬ P i) : ∀ j, j < i + 1 → ¬ P j := by
  intro j hj
  by_cases e : j = i
  · rw [e]; exact h2
  · exact h j (by omega)
theorem reckon_c {f : Fo} (hV : VG f) {kind above edge pool store spot : Nat → Int32} {basins spring hour z : Int32} (hC : CF f kind above edge pool store spot basins spring hour z) (vk vl vr vu : Int32) (W g c k h : Nat → Int32) :
    ∃ w' g' c' k' h' : Nat → Int32, f_X1_reckon vk vl vr vu basins spring W above edge g c kind k pool h = some (nI f.kpS, nI f.lkS, nI f.roS, nI f.unS, w', g', c', k', h') ∧
      ∀ b, b < f.n → c' b = nI (f.cm b) ∧ k' b = nI (f.kp b) ∧ h' b = nI (f.hd b) := by
  rw [hC.1, hC.2.1]
  refine reckon_e hV ?_ vk vl vr vu W g c k h
  intro b hb
  obtain ⟨a1, a2, a3, a4, a5⟩ := hC.2.2.2.2.1 b hb
  exact ⟨a1, a2, a3, a4⟩
theorem off_5 {f : Fo} (hV : VG f) {b : Nat} (hb : b < f.n) : f.off b ≤ 99999 := by
  have := go_5 hV hb
  unfold Fo.off
  omega
theorem unS_le {f : Fo} (hV : VG f) : f.unS ≤ 999990 := by
  have h : f.unS ≤ f.n * 99999 := sumN_bd (fun b hb => by
    have := off_5 hV hb
    split <;> omega)
  have := hV.1
  have h2 : f.n * 99999 ≤ 10 * 99999 := Nat.mul_le_mul_right _ this
  omega
theorem VG_Sg {f : Fo} (h : VG f) {v : Nat} (hv : v ≤ 99999) : VG (f.setSg v) := ⟨h.1, h.2.1, hv⟩
theorem MF_back {f : Fo} (hn : f.n ≤ 10) {d D : Nat → Int32} (hM : MF f d) (h : ∀ i, i < 64 → i ≠ 3 → D i = d i) (v : Nat) : MF (f.setSg v) (upd D 3 (nI v)) :=
  MF_cong (f := f.setSg v) hn (MF_Sg hM v) (upd_twice h)
theorem upd_3 {d D : Nat → Int32} {v : Int32} (h : ∀ i, i < 64 → i ≠ 3 → D i = d i) (hv : v = d 3) : ∀ i, i < 64 → upd D 3 v i = d i := by
  intro i hi
  by_cases e : i = 3
  · rw [e, pk_us, hv]
  · rw [pk_un e]; exact h i hi e
