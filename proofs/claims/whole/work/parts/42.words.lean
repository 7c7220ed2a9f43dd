/-! ===== texts: words, kinds, numbers ===== -/
def wL (k : Nat) : Nat := kLen.getD k 0
def wBs : List (List Nat) := [[115, 112, 114, 105, 110, 103], [98, 101, 108, 111, 119], [101, 100, 103, 101], [99, 104, 105, 112, 112, 101, 100], [108, 101, 97, 107, 105, 110, 103], [104, 111, 108, 121], [112, 105, 112, 101, 100], [100, 97, 109, 109, 101, 100], [102, 108, 111, 111, 100, 101, 100], [98, 97, 115, 105, 110]]
def wB (k i : Nat) : Nat := (wBs.getD k []).getD i 0
def wDs : List (List Nat) := [[7, 14, 9, 18, 16, 19], [23, 15, 12, 5, 2], [5, 7, 4, 5], [4, 5, 16, 16, 9, 8, 3], [7, 14, 9, 11, 1, 5, 12], [25, 12, 15, 8], [4, 5, 16, 9, 16], [4, 5, 13, 13, 1, 4], [4, 5, 4, 15, 15, 12, 6], [14, 9, 19, 1, 2]]
def wD (k : Nat) : List Nat := wDs.getD k []
def wW (k : Nat) : Nat := [281493529, 1170473, 101525, 1282162423, 4721545303, 168748, 8692006, 58192564, 2504979733, 1096673].getD k 0
def codeW : List Nat → Nat
  | [] => 0
  | d :: ds => codeW ds * 27 + d
theorem w_len : ∀ k, k < 10 → k_len k = nI (wL k) := by decide +kernel
theorem w_ch : ∀ k, k < 10 → ∀ i, i < wL k → k_ch k (nI i) = nI (wB k i) := by decide +kernel
theorem w_b : ∀ k, k < 10 → ∀ i, i < wL k → wB k i < 256 := by decide +kernel
theorem w_l7 : ∀ k, k < 10 → wL k ≤ 7 := by decide +kernel
theorem w_code : ∀ k, k < 10 → codeW (wD k) = wW k := by decide +kernel
theorem w_dl : ∀ k, k < 10 → (wD k).length = wL k := by decide +kernel
theorem w_d26 : ∀ k, k < 10 → ∀ d, d ∈ wD k → 1 ≤ d ∧ d ≤ 26 := by decide +kernel
theorem w_db : ∀ k, k < 10 → ∀ i, i < wL k → (wD k).getD (wL k - 1 - i) 0 + 96 = wB k i := by decide +kernel
theorem w_W : ∀ k, k < 10 → wW k ≤ 100000000000000000 := by decide +kernel
theorem w_ne : ∀ k, k < 10 → 3 ≤ k → wL k ≠ wL 0 ∨ ∃ i, i < wL 0 ∧ wB k i ≠ wB 0 i := by decide +kernel
theorem w_in {k i : Nat} (hk : k < 10) (hi : i < wL k) : k_in k (nI i) := by
  have h7 := w_l7 k hk
  refine ⟨nI_pos (by omega), nI_lt hi (by have : kLen.getD k 0 = wL k := rfl; omega), vp_in_nI hi (by have : kLen.getD k 0 = wL k := rfl; omega)⟩
theorem hv_code {g : Nat → Nat} {s : Nat} : ∀ (ds : List Nat), (∀ d, d ∈ ds → 1 ≤ d ∧ d ≤ 26) → codeW ds ≤ 100000000000000000 → ∀ k, (∀ i, i < k → 97 ≤ g (s + i) ∧ g (s + i) ≤ 122) → (hv g s k = codeW ds ↔ k = ds.length ∧ ∀ i, i < k → g (s + i) - 96 = ds.getD (k - 1 - i) 0)
  | [], _, _, k, hl => by
    cases k with
    | zero => exact ⟨fun _ => ⟨rfl, fun i hi => absurd hi (by omega)⟩, fun _ => rfl⟩
    | succ k =>
      have h1 := hl k (by omega)
      constructor
      · intro h
        exfalso
        rw [hv, codeW] at h
        split at h <;> omega
      · rintro ⟨h, -⟩
        cases h
  | d :: ds, hd, hc, k, hl => by
    have hd0 := hd d (List.mem_cons_self ..)
    have hc2 : codeW ds * 27 + d ≤ 100000000000000000 := hc
    cases k with
    | zero =>
      constructor
      · intro h
        exfalso
        rw [hv, codeW] at h
        omega
      · rintro ⟨h, -⟩
        cases h
    | succ k =>
      have ih := hv_code (g := g) (s := s) ds (fun x hx => hd x (List.mem_cons_of_mem _ hx)) (by omega) k (fun i hi => hl i (by omega))
      have h1 := hl k (by omega)
      have hlast : (d :: ds).getD (k + 1 - 1 - k) 0 = d := by rw [show k + 1 - 1 - k = 0 by omega]; rfl
      have hprev : ∀ i, i < k → (d :: ds).getD (k + 1 - 1 - i) 0 = ds.getD (k - 1 - i) 0 := fun i hi => by
        rw [show k + 1 - 1 - i = (k - 1 - i) + 1 by omega]; rfl
      rw [hv, codeW]
      by_cases q : 100000000000000000 < hv g s k
      · rw [if_pos q]
        constructor
        · intro h; omega
        · rintro ⟨e1, e2⟩
          exfalso
          have e3 : k = ds.length := by simpa using e1
          have := ih.mpr ⟨e3, fun i hi => (e2 i (by omega)).trans (hprev i hi)⟩
          omega
      · rw [if_neg q]
        constructor
        · intro h
          have e1 : hv g s k = codeW ds := by omega
          have e2 : g (s + k) - 96 = d := by omega
          obtain ⟨e3, e4⟩ := ih.mp e1
          refine ⟨by rw [List.length_cons, ← e3], fun i hi => ?_⟩
          by_cases e : i = k
          · rw [e, hlast]; exact e2
          · rw [hprev i (by omega)]; exact e4 i (by omega)
        · rintro ⟨e1, e2⟩
          have e3 : k = ds.length := by simpa using e1
          have e4 := ih.mpr ⟨e3, fun i hi => (e2 i (by omega)).trans (hprev i hi)⟩
          have e5 := e2 k (by omega)
          rw [hlast] at e5
          rw [e4, e5]
/-- the token is that word -/
def isW (g : Nat → Nat) (k t s e : Nat) : Prop := t = 1 ∧ e - s = wL k ∧ ∀ i, i < wL k → g (s + i) = wB k i
section WRD
variable {g : Nat → Nat} {n : Nat} {bytes tape : Nat → Int32}
theorem word7 (hB : TB g n bytes tape) {t s e : Nat} (ht : t ≤ 4) (hse : s ≤ e) (he : e ≤ n) {k : Nat} (hk : k < 10) : f_X6_isWord k (nI n) (nI t) (nI s) (nI e) bytes = some (kI (isW g k t s e)) := by
  have hn := hB.1
  have h7 := w_l7 k hk
  unfold f_X6_isWord
  by_cases h1 : t = 1
  rotate_left
  · rw [br_f1 (nI_ne 1 1 h1), kI_f (fun z => h1 z.1)]
  rw [br_t1 (show nI t = 1 by rw [h1]; rfl), w_len k hk, pk_sub hse]
  by_cases hl : wL k = e - s
  rotate_left
  · rw [br_f1 (fun z => hl ((nI_eq (by omega) (by omega)).mp z)), kI_f (fun z => hl z.2.1.symm)]
  rw [br_t1 (by rw [hl])]
  unfold f_X6_isWord_L28
  refine lp_go2 _ (fun i (q : Int32) => q = nI i ∧ ∀ j, j < i → g (s + j) = wB k j) (wL k) (fun o => o = some (kI (isW g k t s e))) ?_ _ ⟨rfl, fun j hj => absurd hj (by omega)⟩ (FU_gt (by omega))
  rintro i q hi ⟨rfl, a2⟩ rc
  unfold f_X6_isWord_L28_b
  rw [w_len k hk]
  by_cases hx : i = wL k
  · left
    subst hx
    rw [br_t1 (nI_le (Nat.le_refl _) (by omega)), kI_t (p := isW g k t s e) ⟨h1, hl.symm, a2⟩]
  · have hi' : i < wL k := by omega
    have hg := (hB.2 (s + i) (by omega)).1
    have hw := w_b k hk i hi'
    rw [br_f1 (nI_ge hi' (by omega)), nI_add, bd_t (byte7 hB (i := s + i) (by omega)), if_neg (by omega), gd_t (w_in hk hi'), w_ch k hk i hi']
    by_cases q : g (s + i) = wB k i
    · right
      rw [br_t1 (by rw [q])]
      refine ⟨hi', _, ?_, rfl⟩
      refine ⟨nI_1 i, fun j hj => ?_⟩
      by_cases e : j = i
      · rw [e]; exact q
      · exact a2 j (by omega)
    · left
      rw [br_f1 (fun z => q ((nI_eq (by omega) (by omega)).mp z)), kI_f (fun z => q (z.2.2 i hi'))]
theorem tk_let {p t s e : Nat} (hT : Tk g n p t s e) (h : t = 1) : ∀ i, i < e - s → 97 ≤ g (s + i) ∧ g (s + i) ≤ 122 := by
  obtain ⟨a1, a2, a3, a4, a5, a6, a7, a8, a9, a10, a11⟩ := hT
  obtain ⟨c1, c2, c3⟩ := a10 (Or.inl h)
  intro i hi
  have h9 := c3 (s + i) (by omega) (by omega)
  rw [kA_s (by omega), h] at h9
  exact (kb_is _).1.mp h9
theorem word8 {p t s e at' va : Nat} (hS : St g n p t s e at' va) {k : Nat} (hk : k < 10) {X : Int64} (hX : X = lN (wW k)) : f_X8_isWord X (nI t) (lN va) = some (kI (isW g k t s e)) := by
  subst hX
  obtain ⟨hT, -, h1v, -, -, hva⟩ := hS
  have ht4 := hT.2.2.2.2.1
  have hW := w_W k hk
  unfold f_X8_isWord
  by_cases h1 : t = 1
  rotate_left
  · rw [br_f1 (nI_ne 1 1 h1), kI_f (fun z => h1 z.1)]
  have hlet := tk_let hT h1
  have hc : lg_cmp (lN va) (lN (wW k)) = 0 ↔ va = wW k := (lgc_N hva (by omega)).2.2
  have hcode := hv_code (g := g) (s := s) (wD k) (w_d26 k hk) (by rw [w_code k hk]; exact hW) (e - s) hlet
  rw [w_code k hk, w_dl k hk, ← h1v h1] at hcode
  have hiff : va = wW k ↔ isW g k t s e := by
    refine hcode.trans ⟨fun z => ⟨h1, z.1, fun i hi => ?_⟩, fun z => ⟨z.2.1, fun i hi => ?_⟩⟩
    · have a := z.2 i (by omega)
      have b := w_db k hk i hi
      have c := hlet i (by omega)
      rw [z.1] at a
      omega
    · have z1 := z.2.1
      have a := z.2.2 i (by omega)
      have b := w_db k hk i (by omega)
      have c := hlet i hi
      rw [z.2.1]
      omega
  rw [br_t1 (show nI t = 1 by rw [h1]; rfl)]
  by_cases q : isW g k t s e
  · rw [br_t1 (hc.mpr (hiff.mpr q)), kI_t q]
  · rw [br_f1 (fun z => q (hiff.mp (hc.mp z))), kI_f q]
def wix (c : Nat) : Nat := [9, 3, 4, 5, 6, 7, 8].getD c 0
theorem wix_e : ∀ c, c ≤ 6 → f_X6_wordOf (nI c) = some (wix c) := by
  intro c hc
  unfold f_X6_wordOf
  rcases (show c = 0 ∨ c = 1 ∨ c = 2 ∨ c = 3 ∨ c = 4 ∨ c = 5 ∨ c = 6 by omega) with rfl | rfl | rfl | rfl | rfl | rfl | rfl
  · rw [br_f1 (by decide), br_f1 (by decide), br_f1 (by decide), br_f1 (by decide), br_f1 (by decide), br_f1 (by decide)]; rfl
  · rw [br_t1 (by decide)]; rfl
  · rw [br_f1 (by decide), br_t1 (by decide)]; rfl
  · rw [br_f1 (by decide), br_f1 (by decide), br_t1 (by decide)]; rfl
  · rw [br_f1 (by decide), br_f1 (by decide), br_f1 (by decide), br_t1 (by decide)]; rfl
  · rw [br_f1 (by decide), br_f1 (by decide), br_f1 (by decide), br_f1 (by decide), br_t1 (by decide)]; rfl
  · rw [br_f1 (by decide), br_f1 (by decide), br_f1 (by decide), br_f1 (by decide), br_f1 (by decide), br_t1 (by decide)]; rfl
theorem wix_10 : ∀ c, c ≤ 6 → wix c < 10 ∧ 3 ≤ wix c := by decide +kernel
theorem kind7 (hB : TB g n bytes tape) {t s e : Nat} (ht : t ≤ 4) (hse : s ≤ e) (he : e ≤ n) : ∃ x, f_X6_kindTold (nI n) (nI t) (nI s) (nI e) bytes = some x ∧ srch (fun c => isW g (wix c) t s e) 7 (fun c => x = nI c) (x = -1) := by
  unfold f_X6_kindTold f_X6_kindTold_L2
  refine lp_go3 7 (fun i q => q = nI i ∧ ∀ c, c < i → ¬ isW g (wix c) t s e) ⟨rfl, fun c hc => absurd hc (by omega)⟩ (FU_gt (by decide)) ?_
  rintro i q hi ⟨rfl, a2⟩ rc
  unfold f_X6_kindTold_L2_b
  by_cases hx : i = 7
  · left
    subst hx
    rw [br_t1 (by decide)]
    exact ⟨_, rfl, Or.inr ⟨a2, rfl⟩⟩
  · have hw := wix_10 i (by omega)
    rw [br_f1 (show ¬ (6 : Int32) < nI i from nI_nlt (a := 6) (by omega) (by decide)), bd_t (wix_e i (by omega)), gd_t hw.1, bd_t (word7 hB ht hse he hw.1), br_kI]
    by_cases q : isW g (wix i) t s e
    · left
      rw [br_t1 q]
      exact ⟨_, rfl, Or.inl ⟨i, ⟨by omega, q, a2⟩, rfl⟩⟩
    · right
      rw [br_f1 q]
      refine ⟨by omega, _, ?_, rfl⟩
      exact ⟨nI_1 i, not_s (P := fun c => isW g (wix c) t s e) a2 q⟩
theorem kind8 {p t s e at' va : Nat} (hS : St g n p t s e at' va) : ∃ x, f_X8_kindHere (nI t) (lN va) = some x ∧ srch (fun c => isW g (wix c) t s e) 7 (fun c => x = nI c) (x = -1) := by
  unfold f_X8_kindHere
  rw [bd_t (word8 hS (k := 9) (by decide) (X := 1096673) rfl), br_kI]
  by_cases q0 : isW g 9 t s e
  · rw [br_t1 q0]
    exact ⟨_, rfl, Or.inl ⟨0, ⟨by decide, q0, fun i hi => absurd hi (by omega)⟩, rfl⟩⟩
  rw [br_f1 q0, bd_t (word8 hS (k := 3) (by decide) (X := 1282162423) rfl), br_kI]
  by_cases q1 : isW g 3 t s e
  · rw [br_t1 q1]
    refine ⟨_, rfl, Or.inl ⟨1, ⟨by decide, q1, fun i hi => ?_⟩, rfl⟩⟩
    have : i = 0 := by omega
    rw [this]; exact q0
  rw [br_f1 q1, bd_t (word8 hS (k := 4) (by decide) (X := 4721545303) rfl), br_kI]
  by_cases q2 : isW g 4 t s e
  · rw [br_t1 q2]
    refine ⟨_, rfl, Or.inl ⟨2, ⟨by decide, q2, fun i hi => ?_⟩, rfl⟩⟩
    rcases (show i = 0 ∨ i = 1 by omega) with rfl | rfl
    · exact q0
    · exact q1
  rw [br_f1 q2, bd_t (word8 hS (k := 5) (by decide) (X := 168748) rfl), br_kI]
  by_cases q3 : isW g 5 t s e
  · rw [br_t1 q3]
    refine ⟨_, rfl, Or.inl ⟨3, ⟨by decide, q3, fun i hi => ?_⟩, rfl⟩⟩
    rcases (show i = 0 ∨ i = 1 ∨ i = 2 by omega) with rfl | rfl | rfl
    · exact q0
    · exact q1
    · exact q2
  rw [br_f1 q3, bd_t (word8 hS (k := 6) (by decide) (X := 8692006) rfl), br_kI]
  by_cases q4 : isW g 6 t s e
  · rw [br_t1 q4]
    refine ⟨_, rfl, Or.inl ⟨4, ⟨by decide, q4, fun i hi => ?_⟩, rfl⟩⟩
    rcases (show i = 0 ∨ i = 1 ∨ i = 2 ∨ i = 3 by omega) with rfl | rfl | rfl | rfl
    · exact q0
    · exact q1
    · exact q2
    · exact q3
  rw [br_f1 q4, bd_t (word8 hS (k := 7) (by decide) (X := 58192564) rfl), br_kI]
  by_cases q5 : isW g 7 t s e
  · rw [br_t1 q5]
    refine ⟨_, rfl, Or.inl ⟨5, ⟨by decide, q5, fun i hi => ?_⟩, rfl⟩⟩
    rcases (show i = 0 ∨ i = 1 ∨ i = 2 ∨ i = 3 ∨ i = 4 by omega) with rfl | rfl | rfl | rfl | rfl
    · exact q0
    · exact q1
    · exact q2
    · exact q3
    · exact q4
  rw [br_f1 q5, bd_t (word8 hS (k := 8) (by decide) (X := 2504979733) rfl), br_kI]
  by_cases q6 : isW g 8 t s e
  · rw [br_t1 q6]
    refine ⟨_, rfl, Or.inl ⟨6, ⟨by decide, q6, fun i hi => ?_⟩, rfl⟩⟩
    rcases (show i = 0 ∨ i = 1 ∨ i = 2 ∨ i = 3 ∨ i = 4 ∨ i = 5 by omega) with rfl | rfl | rfl | rfl | rfl | rfl
    · exact q0
    · exact q1
    · exact q2
    · exact q3
    · exact q4
    · exact q5
  rw [br_f1 q6]
  refine ⟨_, rfl, Or.inr ⟨fun i hi => ?_, rfl⟩⟩
  rcases (show i = 0 ∨ i = 1 ∨ i = 2 ∨ i = 3 ∨ i = 4 ∨ i = 5 ∨ i = 6 by omega) with rfl | rfl | rfl | rfl | rfl | rfl | rfl
  · exact q0
  · exact q1
  · exact q2
  · exact q3
  · exact q4
  · exact q5
  · exact q6
theorem kind_two (hB : TB g n bytes tape) {p t s e at' va : Nat} (hS : St g n p t s e at' va) : ∃ x, f_X6_kindTold (nI n) (nI t) (nI s) (nI e) bytes = some x ∧ f_X8_kindHere (nI t) (lN va) = some x ∧ ((∃ c, c ≤ 6 ∧ x = nI c ∧ isW g (wix c) t s e) ∨ (x = -1 ∧ ∀ c, c ≤ 6 → ¬ isW g (wix c) t s e)) := by
  have hT := hS.1
  obtain ⟨x, hx, hx2⟩ := kind7 hB hT.2.2.2.2.1 hT.2.2.2.2.2.2.2.1 hT.2.2.2.2.2.2.1
  obtain ⟨y, hy, hy2⟩ := kind8 hS
  rcases hx2 with ⟨c, hc, hxc⟩ | ⟨h0, hxm⟩
  · rcases hy2 with ⟨c', hc', hyc⟩ | ⟨h0', -⟩
    · have e := fst1_u hc hc'
      subst e
      rw [hyc, ← hxc] at hy
      exact ⟨x, hx, hy, Or.inl ⟨c, by have := hc.1; omega, hxc, hc.2.1⟩⟩
    · exact absurd hc.2.1 (h0' c hc.1)
  · rcases hy2 with ⟨c', hc', hyc⟩ | ⟨h0', hym⟩
    · exact absurd hc'.2.1 (h0 c' hc'.1)
    · rw [hym, ← hxm] at hy
      exact ⟨x, hx, hy, Or.inr ⟨hxm, fun c hc => h0 c (by omega)⟩⟩
theorem spring_no {t s e : Nat} (h : isW g 0 t s e) : ∀ c, c ≤ 6 → ¬ isW g (wix c) t s e := by
  intro c hc h2
  have hw := wix_10 c hc
  rcases w_ne (wix c) hw.1 hw.2 with q | ⟨i, hi, q⟩
  · exact q (h2.2.1.symm.trans h.2.1)
  · have hl : wL (wix c) = wL 0 := h2.2.1.symm.trans h.2.1
    exact q ((h2.2.2 i (by omega)).symm.trans (h.2.2 i hi))
/-- what the class makes of the digits -/
def mn (g : Nat → Nat) (s k : Nat) : Nat := if nv g s k ≤ 99999 then nv g s k else 100000
theorem value7 (hB : TB g n bytes tape) {s e : Nat} (hse : s ≤ e) (he : e ≤ n) (hd : ∀ i, i < e - s → 48 ≤ g (s + i) ∧ g (s + i) ≤ 57) : f_X6_valueOfDigits (nI n) (nI s) (nI e) bytes = some (nI (mn g s (e - s))) := by
  have hn := hB.1
  unfold f_X6_valueOfDigits f_X6_valueOfDigits_L7
  refine lp_go2 _ (fun i (q : Int32 × Int32) => q.1 = nI (mn g s i) ∧ q.2 = nI (s + i)) (e - s) (fun o => o = some (nI (mn g s (e - s)))) ?_ _ ⟨rfl, rfl⟩ (FU_gt (by omega))
  rintro i ⟨y1, y2⟩ hi ⟨a1, a2⟩ rc
  dsimp only at a1 a2 ⊢
  subst a1 a2
  unfold f_X6_valueOfDigits_L7_b
  by_cases hx : i = e - s
  · left
    subst hx
    rw [br_t1 (show nI e ≤ nI (s + (e - s)) from nI_le (by omega) (by omega))]
  · right
    have hdi := hd i (by omega)
    have hml : mn g s i ≤ 100000 := by unfold mn; split <;> omega
    have e1 : nI (mn g s i) * (10 : Int32) + nI (g (s + i)) - (48 : Int32) = nI (mn g s i * 10 + g (s + i) - 48) := by
      rw [show nI (mn g s i) * (10 : Int32) = nI (mn g s i * 10) from pk_mul _ 10, nI_add]
      exact pk_sub (b := 48) (by omega)
    have e2 : (if (100000 : Int32) < nI (mn g s i * 10 + g (s + i) - 48) then (100000 : Int32) else nI (mn g s i * 10 + g (s + i) - 48)) = nI (mn g s (i + 1)) := by
      have hlt : (100000 : Int32) < nI (mn g s i * 10 + g (s + i) - 48) ↔ 100000 < mn g s i * 10 + g (s + i) - 48 := nI_ltI (a := 100000) (by decide) (by omega)
      by_cases q : 100000 < mn g s i * 10 + g (s + i) - 48
      · rw [if_pos (hlt.mpr q)]
        have : mn g s (i + 1) = 100000 := by
          unfold mn at q ⊢
          rw [nv]
          split at q <;> (repeat' split) <;> omega
        rw [this]; rfl
      · rw [if_neg (fun z => q (hlt.mp z))]
        refine congrArg nI ?_
        unfold mn at q ⊢
        rw [nv]
        split at q <;> (repeat' split) <;> omega
    rw [br_f1 (nI_ge (by omega) (by omega)), bd_t (byte7 hB (i := s + i) (by omega)), if_neg (show ¬ n ≤ s + i by omega), e1, nm_q, e2]
    exact ⟨by omega, _, ⟨rfl, nI_1 _⟩, rfl⟩
theorem wrong8 (s : Nat) : f_X8_wrongHere (nI s) (-1) = some (nI s) := by
  unfold f_X8_wrongHere
  exact br_f1 (by decide)
theorem num_two (hB : TB g n bytes tape) {p t s e at' va : Nat} (hS : St g n p t s e at' va) {lo hi : Nat} (hhi : hi ≤ 99999) (hlo : lo ≤ 99999) {LO HI : Int32} (hLO : LO = nI lo) (hHI : HI = nI hi) (num : Int32) :
    (t = 2 ∧ s < e ∧ lo ≤ nv g s (e - s) ∧ nv g s (e - s) ≤ hi ∧ ∃ t' s' e' at2 va', St g n e t' s' e' at2 va' ∧ f_X6_readNumber LO HI (nI n) (nI t) (nI s) (nI e) num bytes = some (1, nI t', nI s', nI e', nI (nv g s (e - s))) ∧ f_X8_numberHere LO HI (nI n) (nI at') (nI t) (nI s) (lN va) (-1) tape = some (nI (nv g s (e - s)), nI at2, nI t', nI s', lN va', -1)) ∨
    (∃ m, f_X6_readNumber LO HI (nI n) (nI t) (nI s) (nI e) num bytes = some (0, nI t, nI s, nI e, m) ∧ f_X8_numberHere LO HI (nI n) (nI at') (nI t) (nI s) (lN va) (-1) tape = some (LO, nI at', nI t, nI s, lN va, nI s)) := by
  subst hLO hHI
  have hn := hB.1
  obtain ⟨hT, hat, h1v, h2v, hatn, hva⟩ := hS
  have hT' := hT
  obtain ⟨a1, a2, a3, a4, a5, a6, a7, a8, a9, a10, a11⟩ := hT
  unfold f_X6_readNumber f_X8_numberHere
  by_cases h2 : t = 2
  rotate_left
  · right
    rw [br_f1 (nI_ne 2 2 h2), br_f1 (nI_ne 2 2 h2), bd_t (wrong8 s)]
    exact ⟨_, rfl, rfl⟩
  have e2 : nI t = (2 : Int32) := by rw [h2]; rfl
  obtain ⟨c1, c2, c3⟩ := a10 (Or.inr h2)
  have hd : ∀ i, i < e - s → 48 ≤ g (s + i) ∧ g (s + i) ≤ 57 := fun i hi => by
    have h := c3 (s + i) (by omega) (by omega)
    rw [kA_s (by omega), h2] at h
    exact (kb_is _).2.1.mp h
  have hvv := h2v h2
  have hmn : mn g s (e - s) ≤ 100000 := by unfold mn; split <;> omega
  have hin : f_X8_in (lN va) (nI lo).toInt64 (nI hi).toInt64 = some (kI (lo ≤ va ∧ va ≤ hi)) := by
    rw [in_e, kI_c]
    rw [pk_lT hva, Int32.toInt_toInt64, Int32.toInt_toInt64, nI_toInt (by omega), nI_toInt (by omega)]
    omega
  rw [br_t1 e2, br_t1 e2, bd_t (value7 hB a8 a7 hd), bd_t hin, br_kI]
  by_cases hr : lo ≤ va ∧ va ≤ hi
  · left
    have hm : mn g s (e - s) = va := by unfold mn; rw [← hvv, if_pos (by omega)]
    obtain ⟨t', s', e', hT2⟩ := tk_ex (g := g) (n := n) a7
    obtain ⟨at2, va', hS2, hN⟩ := next8 hB hT2 (nI t) (nI s) (lN va)
    rw [← hat (by omega)] at hN
    refine ⟨h2, c1, by omega, by omega, t', s', e', at2, va', hS2, ?_, ?_⟩
    · rw [hm, br_f1 (nI_nlt (by omega) (by omega)), br_t1 (nI_le (by omega) (by omega)), bd_t (adv7 hB hT2 (nI t) (nI s)), ← hvv]
    · rw [br_t1 hr, bd_t hN, ← hvv, lN_i]
  · right
    refine ⟨nI (mn g s (e - s)), ?_, ?_⟩
    · by_cases q : mn g s (e - s) < lo
      · rw [br_t1 (nI_lt q (by omega))]
      · rw [br_f1 (nI_nlt (by omega) (by omega)), br_f1]
        refine nI_ge ?_ (by omega)
        unfold mn at q ⊢
        rw [← hvv] at q ⊢
        split at q <;> (repeat' split) <;> omega
    · rw [br_f1 hr, bd_t (wrong8 s)]
end WRD
