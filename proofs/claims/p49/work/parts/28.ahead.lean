/-! ===== cases ahead, when, weather, wear, judge ===== -/
theorem two_imp {α β : Type} {a : Option α} {b : Option β} (R : α → β → Prop) {S : α → β → Prop} (h : ∃ u v, a = some u ∧ b = some v ∧ R u v) (k : ∀ u v, R u v → S u v) : ∃ u v, a = some u ∧ b = some v ∧ S u v := by
  obtain ⟨u, v, h1, h2, h3⟩ := h
  exact ⟨u, v, h1, h2, k u v h3⟩
theorem lp_two4i {σ α τ β : Type} {f : (σ → Option α) → σ → Option α} {g : (τ → Option β) → τ → Option β} {R : α → β → Prop} (n : Nat) (I : Nat → σ → τ → Prop)
    (h : ∀ i s t, i ≤ n → I i s t → ∀ rc rd, (∃ a b, f rc s = some a ∧ g rd t = some b ∧ R a b) ∨ (i < n ∧ ∃ s' t', I (i + 1) s' t' ∧ f rc s = rc s' ∧ g rd t = rd t')) :
    ∀ (d i : Nat) (s : σ) (t : τ) (k : Nat), n - i ≤ d → i ≤ n → I i s t → d < k → ∃ a b, lp f k s = some a ∧ lp g k t = some b ∧ R a b := by
  intro d
  induction d with
  | zero =>
    intro i s t k hd hi hI hk
    obtain ⟨k', rfl⟩ : ∃ k', k = k' + 1 := ⟨k - 1, by omega⟩
    rcases h i s t hi hI (lp f k') (lp g k') with h1 | ⟨h1, -⟩
    · exact h1
    · omega
  | succ d ih =>
    intro i s t k hd hi hI hk
    obtain ⟨k', rfl⟩ : ∃ k', k = k' + 1 := ⟨k - 1, by omega⟩
    rcases h i s t hi hI (lp f k') (lp g k') with h1 | ⟨h1, s', t', hI', hs, ht⟩
    · exact h1
    · obtain ⟨a, b, e1, e2, e3⟩ := ih (i + 1) s' t' k' (by omega) h1 hI' (by omega)
      exact ⟨a, b, hs.trans e1, ht.trans e2, e3⟩
/-- two loops side by side -/
theorem lp_two4 {σ α τ β : Type} {f : (σ → Option α) → σ → Option α} {g : (τ → Option β) → τ → Option β} {s : σ} {t : τ} {R : α → β → Prop} (n : Nat) (I : Nat → σ → τ → Prop) (h0 : I 0 s t) (hn : n < FU)
    (h : ∀ i s t, i ≤ n → I i s t → ∀ rc rd, (∃ a b, f rc s = some a ∧ g rd t = some b ∧ R a b) ∨ (i < n ∧ ∃ s' t', I (i + 1) s' t' ∧ f rc s = rc s' ∧ g rd t = rd t')) : ∃ a b, lp f FU s = some a ∧ lp g FU t = some b ∧ R a b :=
  lp_two4i n I h n 0 s t FU (by omega) (Nat.zero_le n) h0 hn
theorem pass_c {f : Fo} (hV : VG f) {kind above edge pool store spot : Nat → Int32} {basins spring hour z : Int32} (hC : CF f kind above edge pool store spot basins spring hour z) {k : Nat} (hk : k ≤ 1000) (vk vl vr vu va vb vc : Int32) (W g c kk h : Nat → Int32) :
    ∃ (vk' vl' vr' vu' hr' : Int32) (w' g' c' k' p' h' s' : Nat → Int32), f_X1_pass (nI k) vk vl vr vu va vb vc basins spring hour W above edge g c kind kk pool h store = some (vk', vl', vr', vu', nI (f.kpT k), nI (f.lkT k), nI (f.roT k), hr', w', g', c', k', p', h', s') ∧
      CF (f.it k) kind above edge p' s' spot basins spring hr' z ∧ ∀ b, b < f.n → ∀ j, k = j + 1 → k' b = nI ((f.it j).kp b) := by
  obtain ⟨vk', vl', vr', vu', w', g', c', k', p', h', s', hp, hpv⟩ := pass_e2 hV hC hk vk vl vr vu va vb vc W g c kk h
  refine ⟨vk', vl', vr', vu', _, w', g', c', k', p', h', s', hp, ?_, fun b hb => (hpv b hb).2.2⟩
  obtain ⟨s1, s2, s3, s4, s5, s6, s7, s8⟩ := it_same f k
  obtain ⟨q0, q1, q2, q3, q4, q5⟩ := hC
  refine ⟨q0.trans (congrArg nI s1.symm), q1.trans (congrArg nI s6.symm), congrArg nI s7.symm, q3.trans s8.symm, fun b hb => ?_, fun j hj => by rw [s5]; exact q5 j hj⟩
  rw [s1] at hb
  obtain ⟨r1, r2, r3, r4, r5⟩ := q4 b hb
  rw [s2, s3, s4]
  exact ⟨r1, r2, r3, (hpv b hb).1, (hpv b hb).2.1⟩
theorem known_t {n : Nat} (hn : n ≤ 10) {x : Int32} {α : Type} {A B : Option α} (h : rg 0 (2 + n) x) : br (rg 0 2 x) B (br (x ≤ 2) A (bd (f_X7_isBasin (x - 3) (nI n)) fun u => br (u = 0) A B)) = B := by
  obtain ⟨j, -, hj, rfl⟩ := h
  by_cases h2 : j ≤ 2
  · rw [br_t1 ⟨j, by omega, h2, rfl⟩]
  · have e : nI j - (3 : Int32) = nI (j - 3) := pk_sub (b := 3) (by omega)
    rw [br_f1 (fun q => by obtain ⟨i, -, hi, e⟩ := q; have := (nI_eq (by omega) (by omega)).mp e; omega), br_f1 (show ¬ nI j ≤ (2 : Int32) from nI_ge (a := 2) (by omega) (by omega)), bd_t (isB7 (by omega) _), e, kI_t ⟨j - 3, by omega, rfl⟩, br_f1 (by decide)]
theorem known_f {n : Nat} (hn : n ≤ 10) {x : Int32} {α : Type} {A B : Option α} (h : ¬ rg 0 (2 + n) x) : br (rg 0 2 x) B (br (x ≤ 2) A (bd (f_X7_isBasin (x - 3) (nI n)) fun u => br (u = 0) A B)) = A := by
  rw [br_f1 (fun q => h (by obtain ⟨j, h1, h2, e⟩ := q; exact ⟨j, h1, by omega, e⟩))]
  by_cases h2 : x ≤ 2
  · rw [br_t1 h2]
  · rw [br_f1 h2, bd_t (isB7 (by omega) _), kI_f, br_t1 rfl]
    rintro ⟨j, hj, e⟩
    exact h ⟨j + 3, by omega, by omega, by rw [← nI_add, ← e]; show x = x - 3 + 3; rw [Int32.sub_add_cancel]⟩
def Fo.dz (f : Fo) : Int32 := f.z * 1103515245 + 12345
def Fo.dm (f : Fo) : Nat := f.dz.toBitVec.toNat / 2 ^ 8
theorem drw (x : Int32) : (x.toUInt32 >>> ((8 : Int32).toUInt32 &&& Int32.toUInt32 31)).toInt32 = nI (x.toBitVec.toNat / 2 ^ 8) := by
  have h := pk_ushr x 8 8 (by decide)
  have h2 : x.toBitVec.toNat / 2 ^ 8 < 2 ^ 32 := Nat.lt_of_le_of_lt (Nat.div_le_self _ _) x.toBitVec.isLt
  apply Int32.toBitVec_inj.mp
  apply BitVec.eq_of_toNat_eq
  rw [h, pk_tn h2]
theorem dm_lt (f : Fo) : f.dm < 2 ^ 31 := by
  have := f.dz.toBitVec.isLt
  unfold Fo.dm
  omega
theorem draw7 {f : Fo} {z : Int32} (h : z = f.z) : f_X2_draw z = some (nI f.dm, f.dz) := by
  subst h
  unfold f_X2_draw
  rw [drw]
  rfl
theorem CF_Z {f : Fo} {kind above edge pool store spot : Nat → Int32} {basins spring hour z : Int32} (h : CF f kind above edge pool store spot basins spring hour z) (v : Int32) : CF (f.setZ v) kind above edge pool store spot basins spring hour v := ⟨h.1, h.2.1, h.2.2.1, rfl, h.2.2.2.2⟩
theorem CF_Sg {f : Fo} {kind above edge pool store spot : Nat → Int32} {basins spring hour z : Int32} (h : CF f kind above edge pool store spot basins spring hour z) (v : Nat) : CF (f.setSg v) kind above edge pool store spot basins (nI v) hour z := ⟨h.1, rfl, h.2.2.1, h.2.2.2.1, h.2.2.2.2⟩
theorem VF_Sg {f : Fo} (h : VF f) {v : Nat} (hv : v ≤ 99999) : VF (f.setSg v) := ⟨h.1, h.2.1, hv, h.2.2.2⟩
theorem VF_Z {f : Fo} (h : VF f) (v : Int32) : VF (f.setZ v) := h
