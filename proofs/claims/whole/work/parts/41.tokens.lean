/-! ===== texts: bytes and tokens, on both sides ===== -/
/-- a byte as the reference holds it -/
def sb (b : Nat) : Int32 := (nI b).toInt8.toInt32
theorem sb_lo : ∀ b, b < 128 → sb b = nI b := by decide +kernel
theorem sb_hi : ∀ b, b < 256 → 128 ≤ b → sb b < 0 := by decide +kernel
/-- the kind of token that a byte begins -/
def kb (b : Nat) : Nat := if 97 ≤ b ∧ b ≤ 122 then 1 else if 48 ≤ b ∧ b ≤ 57 then 2 else if b = 32 then 5 else if b = 59 then 3 else 4
def kA (g : Nat → Nat) (n i : Nat) : Nat := if n ≤ i then 0 else kb (g i)
theorem kA_0 {g : Nat → Nat} {n i : Nat} (h : n ≤ i) : kA g n i = 0 := if_pos h
theorem kA_s {g : Nat → Nat} {n i : Nat} (h : i < n) : kA g n i = kb (g i) := if_neg (by omega)
theorem kb_5 (b : Nat) : 1 ≤ kb b ∧ kb b ≤ 5 := by
  unfold kb
  repeat' split
  all_goals omega
theorem kb_is (b : Nat) : (kb b = 1 ↔ 97 ≤ b ∧ b ≤ 122) ∧ (kb b = 2 ↔ 48 ≤ b ∧ b ≤ 57) ∧ (kb b = 5 ↔ b = 32) ∧ (kb b = 3 ↔ b = 59) := by
  unfold kb
  repeat' split
  all_goals omega
def TB (g : Nat → Nat) (n : Nat) (bytes tape : Nat → Int32) : Prop := n ≤ 120 ∧ ∀ k, k < n → g k < 256 ∧ bytes k = nI (g k) ∧ tape k = sb (g k)
section TOK
variable {g : Nat → Nat} {n : Nat} {bytes tape : Nat → Int32}
theorem byte7 (hB : TB g n bytes tape) {i : Nat} (hi : i < 2 ^ 30) : f_X6_byteAt (nI i) (nI n) bytes = some (if n ≤ i then -1 else nI (g i)) := by
  have h1 := hB.1
  unfold f_X6_byteAt
  rw [br_f1 (nI_pos (by omega))]
  by_cases h : n ≤ i
  · rw [br_t1 (nI_le h (by omega)), if_pos h]
  · rw [br_f1 (nI_ge (by omega) (by omega)), if_neg h, br_f1 (show ¬ (120 : Int32) ≤ nI i from nI_ge (b := 120) (by omega) (by decide)), gd_t (vp_in_nI (by omega) (by decide)), nI_clamp (by omega), (hB.2 i (by omega)).2.1]
theorem byte8 (hB : TB g n bytes tape) {i : Nat} (hi : i < 2 ^ 30) : f_X8_byteAt (nI i) (nI n) tape = some (if n ≤ i then -1 else sb (g i)) := by
  have h1 := hB.1
  unfold f_X8_byteAt
  by_cases h : n ≤ i
  · rw [br_t1 (nI_le h (by omega)), if_pos h]
  · rw [br_f1 (nI_ge (by omega) (by omega)), if_neg h, gd_t (vp_in_nI (by omega) (by decide)), nI_clamp (by omega), (hB.2 i (by omega)).2.2]
theorem begins7 (hB : TB g n bytes tape) {i : Nat} (hi : i < 2 ^ 30) : f_X6_beginsAt (nI i) (nI n) bytes = some (nI (kA g n i)) := by
  unfold f_X6_beginsAt
  rw [bd_t (byte7 hB hi)]
  by_cases h : n ≤ i
  · rw [if_pos h, br_t1 rfl, kA_0 h]; rfl
  · have hb := (hB.2 i (by omega)).1
    rw [if_neg h, kA_s (by omega)]
    generalize g i = b at *
    have hne : ¬ nI b = -1 := by
      intro e
      have := congrArg Int32.toInt e
      rw [nI_toInt (by omega), show (-1 : Int32).toInt = -1 from rfl] at this
      omega
    have l97 : nI b < (97 : Int32) ↔ b < 97 := nI_ltI (b := 97) (by omega) (by decide)
    have l48 : nI b < (48 : Int32) ↔ b < 48 := nI_ltI (b := 48) (by omega) (by decide)
    have g57 : (57 : Int32) < nI b ↔ 57 < b := nI_ltI (a := 57) (by decide) (by omega)
    have g122 : (122 : Int32) < nI b ↔ 122 < b := nI_ltI (a := 122) (by decide) (by omega)
    have e32 : nI b = (32 : Int32) ↔ b = 32 := nI_eq (b := 32) (by omega) (by decide)
    have e59 : nI b = (59 : Int32) ↔ b = 59 := nI_eq (b := 59) (by omega) (by decide)
    have hJ : ¬ (97 ≤ b ∧ b ≤ 122) → ¬ (48 ≤ b ∧ b ≤ 57) → f_X6_beginsAt_J41 (nI i) (nI n) bytes (nI b) = some (nI (kb b)) := by
      intro h1 h2
      unfold f_X6_beginsAt_J41 kb
      rw [if_neg h1, if_neg h2]
      by_cases q : b = 32
      · rw [br_t1 (e32.mpr q), if_pos q]; rfl
      · rw [br_f1 (fun z => q (e32.mp z)), if_neg q]
        by_cases q2 : b = 59
        · rw [br_t1 (e59.mpr q2), if_pos q2]; rfl
        · rw [br_f1 (fun z => q2 (e59.mp z)), if_neg q2]; rfl
    have h2J : ¬ (97 ≤ b ∧ b ≤ 122) → br (nI b < 48) (f_X6_beginsAt_J41 (nI i) (nI n) bytes (nI b)) (br (57 < nI b) (f_X6_beginsAt_J41 (nI i) (nI n) bytes (nI b)) (some 2)) = some (nI (kb b)) := by
      intro h1
      by_cases q : b < 48
      · rw [br_t1 (l48.mpr q)]; exact hJ h1 (by omega)
      · rw [br_f1 (fun z => q (l48.mp z))]
        by_cases q2 : 57 < b
        · rw [br_t1 (g57.mpr q2)]; exact hJ h1 (by omega)
        · rw [br_f1 (fun z => q2 (g57.mp z))]
          unfold kb
          rw [if_neg h1, if_pos (by omega)]; rfl
    rw [br_f1 hne]
    by_cases q : b < 97
    · rw [br_t1 (l97.mpr q)]; exact h2J (by omega)
    · rw [br_f1 (fun z => q (l97.mp z))]
      by_cases q2 : 122 < b
      · rw [br_t1 (g122.mpr q2)]; exact h2J (by omega)
      · rw [br_f1 (fun z => q2 (g122.mp z))]
        unfold kb
        rw [if_pos (by omega)]; rfl
theorem run_ex {t : Nat} (ht : t ≠ 0) : ∀ (d p : Nat), n - p ≤ d → p ≤ n → ∃ s, p ≤ s ∧ s ≤ n ∧ kA g n s ≠ t ∧ ∀ i, p ≤ i → i < s → kA g n i = t := by
  intro d
  induction d with
  | zero =>
    intro p h1 h2
    exact ⟨p, Nat.le_refl _, h2, by rw [kA_0 (by omega)]; exact fun e => ht e.symm, fun i h3 h4 => absurd h3 (by omega)⟩
  | succ d ih =>
    intro p h1 h2
    by_cases q : kA g n p = t
    · have hlt : p < n := by
        rcases Nat.lt_or_ge p n with z | z
        · exact z
        · rw [kA_0 z] at q; exact absurd q.symm ht
      obtain ⟨s, a1, a2, a3, a4⟩ := ih (p + 1) (by omega) hlt
      refine ⟨s, by omega, a2, a3, fun i h3 h4 => ?_⟩
      by_cases e : i = p
      · rw [e]; exact q
      · exact a4 i (by omega) h4
    · exact ⟨p, Nat.le_refl _, h2, q, fun i h3 h4 => absurd h3 (by omega)⟩
/-- the token that is found from p on: its kind, its begin, its end -/
def Tk (g : Nat → Nat) (n p t s e : Nat) : Prop :=
  p ≤ s ∧ s ≤ n ∧ kA g n s = t ∧ t ≠ 5 ∧ t ≤ 4 ∧ (∀ i, p ≤ i → i < s → kA g n i = 5) ∧ e ≤ n ∧ s ≤ e ∧ (t = 0 → e = s ∧ s = n) ∧ ((t = 1 ∨ t = 2) → s < e ∧ kA g n e ≠ t ∧ ∀ i, s ≤ i → i < e → kA g n i = t) ∧ ((t = 3 ∨ t = 4) → e = s + 1)
theorem tk_ex {p : Nat} (hp : p ≤ n) : ∃ t s e, Tk g n p t s e := by
  obtain ⟨s, a1, a2, a3, a4⟩ := run_ex (g := g) (n := n) (t := 5) (by decide) _ p (Nat.le_refl _) hp
  have h4 : kA g n s ≤ 4 := by
    unfold kA
    split
    · omega
    · have := kb_5 (g s)
      have : kb (g s) ≠ 5 := by
        intro e
        rw [kA_s (by omega)] at a3
        exact a3 e
      omega
  have hlt : kA g n s ≠ 0 → s < n := fun h => by
    rcases Nat.lt_or_ge s n with z | z
    · exact z
    · exact absurd (kA_0 z) h
  have h0n : kA g n s = 0 → s = n := fun h => by
    rcases Nat.lt_or_ge s n with z | z
    · rw [kA_s z] at h
      have := kb_5 (g s)
      omega
    · omega
  by_cases h12 : kA g n s = 1 ∨ kA g n s = 2
  · obtain ⟨e, b1, b2, b3, b4⟩ := run_ex (g := g) (n := n) (t := kA g n s) (by omega) _ s (Nat.le_refl _) a2
    have hse : s < e := by
      rcases Nat.lt_or_ge s e with z | z
      · exact z
      · have : e = s := by omega
        rw [this] at b3
        exact absurd rfl b3
    exact ⟨_, s, e, a1, a2, rfl, a3, h4, a4, b2, by omega, fun h => by omega, fun _ => ⟨hse, b3, b4⟩, fun h => by omega⟩
  · by_cases h0 : kA g n s = 0
    · exact ⟨_, s, s, a1, a2, rfl, a3, h4, a4, a2, Nat.le_refl _, fun h => ⟨rfl, h0n h⟩, fun h => absurd h h12, fun h => by omega⟩
    · have := hlt h0
      exact ⟨_, s, s + 1, a1, a2, rfl, a3, h4, a4, by omega, by omega, fun h => absurd h h0, fun h => absurd h h12, fun _ => rfl⟩
theorem adv7 (hB : TB g n bytes tape) {p t s e : Nat} (hT : Tk g n p t s e) (tok st : Int32) : f_X6_advance (nI n) tok st (nI p) bytes = some (nI t, nI s, nI e) := by
  have hn := hB.1
  obtain ⟨a1, a2, a3, a4, a5, a6, a7, a8, a9, a10, a11⟩ := hT
  unfold f_X6_advance f_X6_advance_L10
  refine lp_go2 _ (fun i (q : Int32 × Int32 × Int32 × Int32) => q.1 = nI i ∧ q.2.2.1 = nI (p + i) ∧ p + i ≤ s) (s - p) (fun o => o = some (nI t, nI s, nI e)) ?_ _ ⟨rfl, rfl, by omega⟩ (FU_gt (by omega))
  rintro i ⟨y1, vt, vs, ve⟩ hi ⟨b1, b2, b3⟩ rc
  dsimp only at b1 b2 ⊢
  subst b1 b2
  unfold f_X6_advance_L10_b
  have fin : p + i = s → f_X6_advance_J44 (nI n) bytes vt (nI (p + i)) ve = some (nI t, nI s, nI e) := by
    intro h
    rw [h]
    unfold f_X6_advance_J44
    rw [bd_t (begins7 hB (i := s) (by omega)), a3]
    have loop : (t = 1 ∨ t = 2) → f_X6_advance_L105 (nI n) bytes FU ((1 : Int32), (0 : Int32), nI t, nI s, nI (s + 1)) = some (nI t, nI s, nI e) := by
      intro h12
      obtain ⟨c1, c2, c3⟩ := a10 h12
      unfold f_X6_advance_L105
      refine lp_go2 _ (fun j (q : Int32 × Int32 × Int32 × Int32 × Int32) => q.1 = 1 ∧ q.2.1 = nI j ∧ q.2.2.1 = nI t ∧ q.2.2.2.1 = nI s ∧ q.2.2.2.2 = nI (s + 1 + j) ∧ s + 1 + j ≤ e) (e - (s + 1)) (fun o => o = some (nI t, nI s, nI e)) ?_ _ ⟨rfl, rfl, rfl, rfl, rfl, by omega⟩ (FU_gt (by omega))
      rintro j ⟨z1, z2, z3, z4, z5⟩ hj ⟨d1, d2, d3, d4, d5, d6⟩ rd
      dsimp only at d1 d2 d3 d4 d5 ⊢
      subst d1 d2 d3 d4 d5
      unfold f_X6_advance_L105_b
      rw [br_f1 (show ¬ (120 : Int32) ≤ nI j from nI_ge (b := 120) (by omega) (by decide)), br_f1 (by decide), bd_t (begins7 hB (i := s + 1 + j) (by omega))]
      by_cases hx : s + 1 + j = e
      · left
        rw [hx, br_f1 (fun z => c2 ((nI_eq (by have := kb_5 (g e); unfold kA; split <;> omega) (by omega)).mp z))]
      · right
        rw [c3 (s + 1 + j) (by omega) (by omega), br_t1 rfl]
        refine ⟨by omega, _, ?_, rfl⟩
        exact ⟨rfl, nI_1 j, rfl, rfl, nI_1 _, by omega⟩
    have flat : t ≠ 1 → t ≠ 2 → ∀ x, f_X6_advance_L105 (nI n) bytes FU ((0 : Int32), (0 : Int32), nI t, nI s, x) = some (nI t, nI s, x) := by
      intro h1 h2 x
      unfold f_X6_advance_L105
      refine lp_go2 _ (fun j (q : Int32 × Int32 × Int32 × Int32 × Int32) => q = ((0 : Int32), (0 : Int32), nI t, nI s, x)) 0 (fun o => o = some (nI t, nI s, x)) ?_ _ rfl (FU_gt (by decide))
      rintro j q hj rfl rd
      left
      unfold f_X6_advance_L105_b
      dsimp only
      rw [br_f1 (by decide), br_t1 rfl]
    unfold f_X6_advance_J81
    by_cases h0 : t = 0
    · have he := (a9 h0).1
      rw [br_t1 (show nI t = 0 by rw [h0]; rfl), br_f1 (nI_ne 1 1 (by omega)), br_f1 (nI_ne 2 2 (by omega)), flat (by omega) (by omega), he]
    · rw [br_f1 (nI_ne 0 0 h0), nI_1]
      by_cases h1 : t = 1
      · rw [br_t1 (show nI t = 1 by rw [h1]; rfl)]
        exact loop (Or.inl h1)
      · rw [br_f1 (nI_ne 1 1 h1)]
        by_cases h2 : t = 2
        · rw [br_t1 (show nI t = 2 by rw [h2]; rfl)]
          exact loop (Or.inr h2)
        · rw [br_f1 (nI_ne 2 2 h2), flat h1 h2, a11 (by omega)]
  by_cases h120 : 120 ≤ i
  · left
    rw [br_t1 (show (120 : Int32) ≤ nI i from nI_le (a := 120) h120 (by omega))]
    exact fin (by omega)
  rw [br_f1 (show ¬ (120 : Int32) ≤ nI i from nI_ge (b := 120) (by omega) (by decide)), bd_t (begins7 hB (i := p + i) (by omega))]
  by_cases hx : p + i = s
  · left
    rw [show kA g n (p + i) = t by rw [hx]; exact a3, br_f1 (nI_ne 5 5 a4)]
    exact fin hx
  · right
    rw [a6 (p + i) (by omega) (by omega), br_t1 (show nI 5 = (5 : Int32) from rfl)]
    refine ⟨by omega, _, ?_, rfl⟩
    exact ⟨nI_1 i, nI_1 _, by omega⟩
/-- what the reference makes of the letters, of the digits -/
def hv (g : Nat → Nat) (s : Nat) : Nat → Nat
  | 0 => 0
  | k + 1 => if 100000000000000000 < hv g s k then hv g s k else hv g s k * 27 + (g (s + k) - 96)
def nv (g : Nat → Nat) (s : Nat) : Nat → Nat
  | 0 => 0
  | k + 1 => if 99999 < nv g s k then nv g s k else nv g s k * 10 + (g (s + k) - 48)
theorem hv_le {s : Nat} : ∀ k, (∀ i, i < k → g (s + i) ≤ 122) → hv g s k ≤ 100000000000000000 * 27 + 26
  | 0, _ => by rw [hv]; omega
  | k + 1, h => by
    have ih := hv_le (s := s) k (fun i hi => h i (by omega))
    have := h k (by omega)
    rw [hv]
    split <;> omega
theorem nv_le {s : Nat} : ∀ k, (∀ i, i < k → g (s + i) ≤ 57) → nv g s k ≤ 99999 * 10 + 9
  | 0, _ => by rw [nv]; omega
  | k + 1, h => by
    have ih := nv_le (s := s) k (fun i hi => h i (by omega))
    have := h k (by omega)
    rw [nv]
    split <;> omega
theorem letter8 {b : Nat} (hb : b < 256) : f_X8_letter (sb b) = some (nI (if 97 ≤ b ∧ b ≤ 122 then b - 96 else 0)) := by
  unfold f_X8_letter
  by_cases h : b < 128
  · rw [sb_lo b h]
    have l97 : nI b < (97 : Int32) ↔ b < 97 := nI_ltI (b := 97) (by omega) (by decide)
    have g122 : (122 : Int32) < nI b ↔ 122 < b := nI_ltI (a := 122) (by decide) (by omega)
    by_cases q : b < 97
    · rw [br_t1 (l97.mpr q), if_neg (by omega)]; rfl
    · rw [br_f1 (fun z => q (l97.mp z))]
      by_cases q2 : 122 < b
      · rw [br_t1 (g122.mpr q2), if_neg (by omega)]; rfl
      · rw [br_f1 (fun z => q2 (g122.mp z)), if_pos (by omega), show nI b - (97 : Int32) = nI (b - 97) from pk_sub (b := 97) (by omega), nI_1]
        exact congrArg some (congrArg nI (by omega))
  · have h0 := sb_hi b hb (by omega)
    rw [br_t1 (show sb b < 97 from Int32.lt_trans h0 (by decide)), if_neg (by omega)]
    rfl
theorem digit8 {b : Nat} (hb : b < 256) : f_X8_isDigit (sb b) = some (kI (48 ≤ b ∧ b ≤ 57)) := by
  unfold f_X8_isDigit
  by_cases h : b < 128
  · rw [sb_lo b h]
    have l48 : nI b < (48 : Int32) ↔ b < 48 := nI_ltI (b := 48) (by omega) (by decide)
    have g57 : (57 : Int32) < nI b ↔ 57 < b := nI_ltI (a := 57) (by decide) (by omega)
    by_cases q : b < 48
    · rw [br_t1 (l48.mpr q), kI_f (by omega)]
    · rw [br_f1 (fun z => q (l48.mp z))]
      by_cases q2 : 57 < b
      · rw [br_t1 (g57.mpr q2), kI_f (by omega)]
      · rw [br_f1 (fun z => q2 (g57.mp z)), kI_t (by omega)]
  · have h0 := sb_hi b hb (by omega)
    rw [br_t1 (show sb b < 48 from Int32.lt_trans h0 (by decide)), kI_f (by omega)]
theorem sb_eq {b : Nat} (hb : b < 256) {m : Nat} (hm : m < 128) {x : Int32} (hx : x = nI m) : sb b = x ↔ b = m := by
  subst hx
  by_cases h : b < 128
  · rw [sb_lo b h]
    exact nI_eq (by omega) (by omega)
  · have h0 := sb_hi b hb (by omega)
    constructor
    · intro e
      rw [e] at h0
      exact absurd h0 (nI_pos (by omega))
    · intro e; omega
/-- the reference's token -/
def St (g : Nat → Nat) (n p t s e at' va : Nat) : Prop := Tk g n p t s e ∧ (t ≠ 4 → at' = e) ∧ (t = 1 → va = hv g s (e - s)) ∧ (t = 2 → va = nv g s (e - s)) ∧ at' ≤ n ∧ va < 2 ^ 63
theorem next8 (hB : TB g n bytes tape) {p t s e : Nat} (hT : Tk g n p t s e) (so fr : Int32) (va : Int64) : ∃ at' v, St g n p t s e at' v ∧ f_X8_next (nI n) (nI p) so fr va tape = some (nI at', nI t, nI s, lN v) := by
  have hT' := hT
  have hn := hB.1
  obtain ⟨a1, a2, a3, a4, a5, a6, a7, a8, a9, a10, a11⟩ := hT
  have m1 : ¬ (-1 : Int32) = 32 := by decide
  unfold f_X8_next f_X8_next_L0
  refine (fun h => ?_ : (∃ r, lp (fun rc v => f_X8_next_L0_b (nI n) tape rc v.1 v.2.1 v.2.2.1 v.2.2.2) FU (nI p, so, fr, va) = some r ∧ ∃ at' v, St g n p t s e at' v ∧ r = (nI at', nI t, nI s, lN v)) → _) ?_
  · obtain ⟨r, hr, x, v, hx, rfl⟩ := h
    exact ⟨x, v, hx, hr⟩
  refine lp_go3 (s - p) (fun i q => q.1 = nI (p + i) ∧ p + i ≤ s) ⟨rfl, by omega⟩ (FU_gt (by omega)) ?_
  rintro i ⟨vat, vso, vfr, vva⟩ hi ⟨b1, b3⟩ rc
  dsimp only at b1 ⊢
  subst b1
  unfold f_X8_next_L0_b
  rw [bd_t (byte8 hB (i := p + i) (by omega))]
  by_cases hx : p + i = s
  rotate_left
  · right
    have h5 := a6 (p + i) (by omega) (by omega)
    have hlt : p + i < n := by omega
    rw [kA_s hlt] at h5
    have hb := (hB.2 (p + i) hlt).1
    rw [if_neg (by omega), br_t1 ((sb_eq hb (m := 32) (by decide) (x := 32) rfl).mpr ((kb_is _).2.2.1.mp h5))]
    refine ⟨by omega, _, ?_, rfl⟩
    exact ⟨nI_1 _, by omega⟩
  left
  rw [hx]
  have hne : ¬ (if n ≤ s then (-1 : Int32) else sb (g s)) = 32 := by
    by_cases h : n ≤ s
    · rw [if_pos h]; exact m1
    · rw [if_neg h]
      intro z
      have := (sb_eq (hB.2 s (by omega)).1 (m := 32) (by decide) (x := 32) rfl).mp z
      rw [kA_s (by omega)] at a3
      exact a4 (a3.symm.trans ((kb_is _).2.2.1.mpr this))
  rw [br_f1 hne]
  unfold f_X8_next_J26
  rw [bd_t (byte8 hB (i := s) (by omega))]
  by_cases hend : s = n
  · have ht : t = 0 := by rw [← a3, kA_0 (by omega)]
    rw [br_t1 (by rw [hend]), ht]
    refine ⟨_, rfl, s, 0, ?_, rfl⟩
    subst ht
    exact ⟨hT', fun _ => ((a9 rfl).1).symm, fun h => absurd h (by decide), fun h => absurd h (by decide), a2, by decide⟩
  have hlt : s < n := by omega
  have hb := (hB.2 s hlt).1
  rw [kA_s hlt] at a3
  obtain ⟨k1, k2, k3, k4⟩ := kb_is (g s)
  rw [br_f1 (fun z => hend ((nI_eq (by omega) (by omega)).mp z)), if_neg (by omega)]
  have e59 := sb_eq hb (m := 59) (by decide) (x := 59) rfl
  by_cases h59 : g s = 59
  · have ht : t = 3 := a3.symm.trans (k4.mpr h59)
    subst ht
    rw [br_t1 (e59.mpr h59)]
    refine ⟨_, rfl, s + 1, 0, ⟨hT', fun _ => (a11 (Or.inl rfl)).symm, fun h => absurd h (by decide), fun h => absurd h (by decide), by omega, by decide⟩, ?_⟩
    rw [nI_1]
    rfl
  rw [br_f1 (fun z => h59 (e59.mp z)), bd_t (letter8 hb)]
  by_cases hlet : 97 ≤ g s ∧ g s ≤ 122
  · have ht : t = 1 := a3.symm.trans (k1.mpr hlet)
    subst ht
    obtain ⟨c1, c2, c3⟩ := a10 (Or.inl rfl)
    have hall : ∀ i, i < e - s → 97 ≤ g (s + i) ∧ g (s + i) ≤ 122 := fun i hi => by
      have h := c3 (s + i) (by omega) (by omega)
      rw [kA_s (by omega)] at h
      exact (kb_is _).1.mp h
    rw [if_pos hlet, br_f1 (nI_nle (by omega) (by omega))]
    unfold f_X8_next_L103
    refine lp_go3 (e - s) (fun j q => q.1 = nI (s + j) ∧ q.2.1 = 1 ∧ q.2.2.1 = nI s ∧ q.2.2.2 = lN (hv g s j) ∧ s + j ≤ e) ⟨rfl, rfl, rfl, rfl, by omega⟩ (FU_gt (by omega)) ?_
    rintro j ⟨vat, vso, vfr, vva⟩ hj ⟨d1, d2, d3, d4, d5⟩ rd
    dsimp only at d1 d2 d3 d4 ⊢
    subst d1 d2 d3 d4
    unfold f_X8_next_L103_b
    have hle := hv_le (g := g) (s := s) j (fun i hi => (hall i (by omega)).2)
    rw [bd_t (byte8 hB (i := s + j) (by omega))]
    by_cases hj2 : s + j = e
    · left
      have hl0 : ∃ x, f_X8_letter (if n ≤ s + j then (-1 : Int32) else sb (g (s + j))) = some x ∧ x ≤ 0 := by
        by_cases h : n ≤ s + j
        · rw [if_pos h]
          refine ⟨0, ?_, by decide⟩
          unfold f_X8_letter
          exact br_t1 (by decide)
        · rw [if_neg h, letter8 (hB.2 _ (by omega)).1, if_neg]
          · exact ⟨_, rfl, by decide⟩
          · intro z
            rw [hj2] at z
            rw [kA_s (by omega)] at c2
            exact c2 ((kb_is _).1.mpr z)
      obtain ⟨x, hx1, hx2⟩ := hl0
      rw [bd_t hx1, br_t1 hx2]
      refine ⟨_, rfl, s + j, hv g s j, ⟨hT', fun _ => hj2, fun _ => congrArg (hv g s) (by omega), fun h => absurd h (by decide), by omega, by omega⟩, rfl⟩
    · right
      have hq := hall j (by omega)
      have hbj := (hB.2 (s + j) (by omega)).1
      have hc : lg_cmp (lN (hv g s j)) (100000000000000000 : Int64) ≤ 0 ↔ hv g s j ≤ 100000000000000000 := (lgc_N (b := 100000000000000000) (by omega) (by decide)).2.1
      refine ⟨by omega, ?_⟩
      rw [if_neg (by omega), bd_t (letter8 hbj), if_pos hq, br_f1 (nI_nle (by omega) (by omega))]
      unfold f_X8_next_J157
      by_cases hv1 : hv g s j ≤ 100000000000000000
      · rw [br_t1 (hc.mpr hv1), bd_t (byte8 hB (i := s + j) (by omega)), if_neg (by omega), bd_t (letter8 hbj), if_pos hq]
        refine ⟨_, ?_, rfl⟩
        refine ⟨nI_1 _, rfl, rfl, ?_, by omega⟩
        dsimp only
        rw [nI_l (by omega), show (27 : Int64) = lN 27 from rfl, lN_mul, lN_add, hv, if_neg (by omega)]
      · rw [br_f1 (fun z => hv1 (hc.mp z))]
        refine ⟨_, ?_, rfl⟩
        refine ⟨nI_1 _, rfl, rfl, ?_, by omega⟩
        dsimp only
        rw [hv, if_pos (by omega)]
  rw [if_neg hlet, br_t1 (by decide), bd_t (digit8 hb), br_kI]
  by_cases hdig : 48 ≤ g s ∧ g s ≤ 57
  · have ht : t = 2 := a3.symm.trans (k2.mpr hdig)
    subst ht
    obtain ⟨c1, c2, c3⟩ := a10 (Or.inr rfl)
    have hall : ∀ i, i < e - s → 48 ≤ g (s + i) ∧ g (s + i) ≤ 57 := fun i hi => by
      have h := c3 (s + i) (by omega) (by omega)
      rw [kA_s (by omega)] at h
      exact (kb_is _).2.1.mp h
    rw [br_t1 hdig]
    unfold f_X8_next_L185
    refine lp_go3 (e - s) (fun j q => q.1 = nI (s + j) ∧ q.2.1 = 2 ∧ q.2.2.1 = nI s ∧ q.2.2.2 = lN (nv g s j) ∧ s + j ≤ e) ⟨rfl, rfl, rfl, rfl, by omega⟩ (FU_gt (by omega)) ?_
    rintro j ⟨vat, vso, vfr, vva⟩ hj ⟨d1, d2, d3, d4, d5⟩ rd
    dsimp only at d1 d2 d3 d4 ⊢
    subst d1 d2 d3 d4
    unfold f_X8_next_L185_b
    have hle := nv_le (g := g) (s := s) j (fun i hi => (hall i (by omega)).2)
    rw [bd_t (byte8 hB (i := s + j) (by omega))]
    by_cases hj2 : s + j = e
    · left
      have hl0 : f_X8_isDigit (if n ≤ s + j then (-1 : Int32) else sb (g (s + j))) = some 0 := by
        by_cases h : n ≤ s + j
        · rw [if_pos h]
          unfold f_X8_isDigit
          exact br_t1 (by decide)
        · rw [if_neg h, digit8 (hB.2 _ (by omega)).1, kI_f]
          intro z
          rw [hj2] at z
          rw [kA_s (by omega)] at c2
          exact c2 ((kb_is _).2.1.mpr z)
      rw [bd_t hl0, br_t1 rfl]
      refine ⟨_, rfl, s + j, nv g s j, ⟨hT', fun _ => hj2, fun h => absurd h (by decide), fun _ => congrArg (nv g s) (by omega), by omega, by omega⟩, rfl⟩
    · right
      have hq := hall j (by omega)
      have hbj := (hB.2 (s + j) (by omega)).1
      have hc : lg_cmp (lN (nv g s j)) (99999 : Int64) ≤ 0 ↔ nv g s j ≤ 99999 := (lgc_N (b := 99999) (by omega) (by decide)).2.1
      refine ⟨by omega, ?_⟩
      rw [if_neg (by omega), bd_t (digit8 hbj), kI_t hq, br_f1 (by decide)]
      unfold f_X8_next_J240
      by_cases hv1 : nv g s j ≤ 99999
      · rw [br_t1 (hc.mpr hv1), bd_t (byte8 hB (i := s + j) (by omega)), if_neg (by omega), sb_lo _ (by omega)]
        refine ⟨_, ?_, rfl⟩
        refine ⟨nI_1 _, rfl, rfl, ?_, by omega⟩
        dsimp only
        rw [nI_l (by omega), show (10 : Int64) = lN 10 from rfl, lN_mul, lN_add, show (48 : Int64) = lN 48 from rfl, lN_sub (by omega), nv, if_neg (by omega)]
        exact congrArg lN (by omega)
      · rw [br_f1 (fun z => hv1 (hc.mp z))]
        refine ⟨_, ?_, rfl⟩
        refine ⟨nI_1 _, rfl, rfl, ?_, by omega⟩
        dsimp only
        rw [nv, if_pos (by omega)]
  · have ht : t = 4 := by
      have h5 := kb_5 (g s)
      have n1 : kb (g s) ≠ 1 := fun z => hlet (k1.mp z)
      have n2 : kb (g s) ≠ 2 := fun z => hdig (k2.mp z)
      have n3 : kb (g s) ≠ 3 := fun z => h59 (k4.mp z)
      omega
    subst ht
    rw [br_f1 hdig]
    exact ⟨_, rfl, s, 0, ⟨hT', fun h => absurd rfl h, fun h => absurd h (by decide), fun h => absurd h (by decide), a2, by decide⟩, rfl⟩
end TOK
