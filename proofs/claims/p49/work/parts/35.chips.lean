/-! ===== cases chips, chipped, copy ===== -/
/-- kinds: the first i as g tells, the others as K -/
def Fo.kdF (f : Fo) (K g : Nat → Nat) (i : Nat) : Fo := (f.n, fun b => if b < i then g b else K b, f.ab, f.ed, f.po, f.st, f.sp, f.sg, f.hr, f.z)
def Fo.setK (f : Fo) (g : Nat → Nat) : Fo := (f.n, g, f.ab, f.ed, f.po, f.st, f.sp, f.sg, f.hr, f.z)
theorem VG_setK {f : Fo} (h : VG f) {g : Nat → Nat} (hg : ∀ b, g b ≤ 6) : VG (f.setK g) := by
  refine ⟨h.1, fun j hj => ?_, h.2.2⟩
  obtain ⟨h1, h2, h3, h4, h5⟩ := h.2.1 j hj
  exact ⟨hg j, h2, h3, h4, h5⟩
theorem CF_kdF_s {f : Fo} {K g : Nat → Nat} {i : Nat} {kind above edge pool store spot : Nat → Int32} {basins spring hour z : Int32} (h : CF (f.kdF K g i) kind above edge pool store spot basins spring hour z) : CF (f.kdF K g (i + 1)) (upd kind i (nI (g i))) above edge pool store spot basins spring hour z := by
  obtain ⟨h0, h1, h2, h3, h4, h5⟩ := h
  refine ⟨h0, h1, h2, h3, fun j hj => ?_, h5⟩
  obtain ⟨a1, a2, a3, a4, a5⟩ := h4 j hj
  refine ⟨?_, a2, a3, a4, a5⟩
  show upd kind i (nI (g i)) j = nI (if j < i + 1 then g j else K j)
  by_cases e : j = i
  · rw [e, pk_us, if_pos (by omega)]
  · rw [pk_un e, a1]
    show nI (if j < i then g j else K j) = _
    by_cases q : j < i
    · rw [if_pos q, if_pos (by omega)]
    · rw [if_neg q, if_neg (by omega)]
theorem CF_kdF_n {f : Fo} {K g : Nat → Nat} {kind above edge pool store spot : Nat → Int32} {basins spring hour z : Int32} (h : CF (f.kdF K g f.n) kind above edge pool store spot basins spring hour z) : CF (f.setK g) kind above edge pool store spot basins spring hour z := by
  obtain ⟨h0, h1, h2, h3, h4, h5⟩ := h
  refine ⟨h0, h1, h2, h3, fun j hj => ?_, h5⟩
  obtain ⟨a1, a2, a3, a4, a5⟩ := h4 j hj
  exact ⟨a1.trans (congrArg nI (if_pos hj)), a2, a3, a4, a5⟩
theorem MF_kdF_s {f : Fo} (hn : f.n ≤ 10) {K g : Nat → Nat} {i : Nat} (hi : i < f.n) {d : Nat → Int32} (h : MF (f.kdF K g i) d) : MF (f.kdF K g (i + 1)) (upd d (4 + 5 * i + 0) (nI (g i))) := by
  have h2 := MF_Kd h hn hi (g i)
  refine MF_eq (f := (f.kdF K g i).setKd i (g i)) (g := f.kdF K g (i + 1)) h2 rfl rfl rfl rfl (fun _ _ => rfl) (fun b hb => ⟨?_, fun _ => rfl, rfl, rfl, rfl⟩)
  show (if b < i + 1 then g b else K b) = fset (fun b => if b < i then g b else K b) i (g i) b
  by_cases e : b = i
  · rw [e, fset_s, if_pos (by omega)]
  · rw [fset_n e]
    by_cases q : b < i
    · rw [if_pos q, if_pos (by omega)]
    · rw [if_neg q, if_neg (by omega)]
theorem MF_kdF_n {f : Fo} {K g : Nat → Nat} {d : Nat → Int32} (h : MF (f.kdF K g f.n) d) : MF (f.setK g) d :=
  MF_eq (f := f.kdF K g f.n) (g := f.setK g) h rfl rfl rfl rfl (fun _ _ => rfl) (fun b hb => ⟨(if_pos hb).symm, fun _ => rfl, rfl, rfl, rfl⟩)
def bitN (i b : Nat) : Nat := if tb (nI i) b = true then 1 else 0
theorem bitN_e (i : Nat) {b : Nat} (hb : b < 10) : (nI i >>> (nI b &&& 31)) &&& 1 = nI (bitN i b) := by
  rw [shr_bit _ hb]
  unfold bitN
  by_cases q : tb (nI i) b = true
  · rw [if_pos q, if_pos q]; rfl
  · rw [if_neg q, if_neg q]; rfl
theorem bitN_le (i b : Nat) : bitN i b ≤ 1 := by
  unfold bitN
  split <;> omega
noncomputable def chS (E : Nat → Prop) (l a : Int32) : Nat → Nat × Int32 × Int32 × Int32
  | 0 => (0, l, a, 0)
  | i + 1 => @ite _ (E i) (Classical.propDecidable _) ((chS E l a i).1 + 1, (if (chS E l a i).1 = 0 then nI i else (chS E l a i).2.1), (chS E l a i).2.2.1 &&& nI i, (chS E l a i).2.2.2 ||| nI i) (chS E l a i)
theorem chS_t {E : Nat → Prop} {l a : Int32} {i : Nat} (h : E i) : chS E l a (i + 1) = ((chS E l a i).1 + 1, (if (chS E l a i).1 = 0 then nI i else (chS E l a i).2.1), (chS E l a i).2.2.1 &&& nI i, (chS E l a i).2.2.2 ||| nI i) := by rw [chS]; exact if_pos h
theorem chS_f {E : Nat → Prop} {l a : Int32} {i : Nat} (h : ¬ E i) : chS E l a (i + 1) = chS E l a i := by rw [chS]; exact if_neg h
theorem chS_le {E : Nat → Prop} {l a : Int32} : ∀ i, (chS E l a i).1 ≤ i
  | 0 => Nat.le_refl _
  | i + 1 => by
    have := chS_le (E := E) (l := l) (a := a) i
    by_cases q : E i
    · rw [chS_t q]; dsimp only; omega
    · rw [chS_f q]; omega
theorem chS_l {E : Nat → Prop} {l m a : Int32} : ∀ i, (chS E l a i).1 = (chS E m a i).1 ∧ (chS E l a i).2.2 = (chS E m a i).2.2 ∧ ((chS E l a i).1 ≠ 0 → (chS E l a i).2.1 = (chS E m a i).2.1)
  | 0 => ⟨rfl, rfl, fun h => absurd rfl h⟩
  | i + 1 => by
    obtain ⟨h1, h2, h3⟩ := chS_l (E := E) (l := l) (m := m) (a := a) i
    by_cases q : E i
    · rw [chS_t q, chS_t q]
      dsimp only
      rw [h1, h2]
      refine ⟨rfl, rfl, fun _ => ?_⟩
      by_cases z : (chS E m a i).1 = 0
      · rw [if_pos z, if_pos z]
      · rw [if_neg z, if_neg z]
        exact h3 (by rw [h1]; exact z)
    · rw [chS_f q, chS_f q]
      exact ⟨h1, h2, h3⟩
theorem pow_n : ∀ n, n ≤ 10 → (1 : Int32) <<< (nI n &&& 31) = nI (2 ^ n) := by
  intro n hn
  rcases (show n = 0 ∨ n = 1 ∨ n = 2 ∨ n = 3 ∨ n = 4 ∨ n = 5 ∨ n = 6 ∨ n = 7 ∨ n = 8 ∨ n = 9 ∨ n = 10 by omega) with rfl | rfl | rfl | rfl | rfl | rfl | rfl | rfl | rfl | rfl | rfl <;> decide
theorem pow_le {n : Nat} (hn : n ≤ 10) : 2 ^ n ≤ 1024 := by
  have h := Nat.pow_le_pow_right (n := 2) (by decide) hn
  omega
/-- a set explains a sheet -/
def expl (f : Fo) (z : Nat) (nu : Nat → Int32) (i : Nat) : Prop := ∀ b, b < f.n → b < z → nI ((f.setK (bitN i)).kp b) = nu b
theorem explains_e {n z : Nat} (hn : n ≤ 10) (hz : z ≤ 40) (k nu : Nat → Int32) : f_X0_explains (nI n) (nI z) k nu = some (kI (∀ b, b < n → b < z → k b = nu b)) := by
  unfold f_X0_explains f_X0_explains_L2
  refine lp_go2 _ (fun i (s : Int32) => s = nI i ∧ i ≤ z ∧ ∀ b, b < i → k b = nu b) n (fun o => o = some (kI (∀ b, b < n → b < z → k b = nu b))) ?_ _ ⟨rfl, Nat.zero_le _, fun b hb => absurd hb (by omega)⟩ (FU_gt (by omega))
  rintro i y hi ⟨a1, a0, a2⟩ rc
  subst a1
  unfold f_X0_explains_L2_b
  by_cases hx : i = n
  · left
    subst hx
    rw [br_t1 (nI_le (Nat.le_refl _) (by omega)), kI_t (fun b hb _ => a2 b hb)]
  · rw [br_f1 (nI_ge (by omega) (by omega))]
    by_cases hy : i = z
    · left
      subst hy
      rw [br_t1 (nI_le (Nat.le_refl _) (by omega)), kI_t (fun b _ hb => a2 b hb)]
    · rw [br_f1 (nI_ge (by omega) (by omega)), gd_t (vp_in_nI (by omega) (by decide)), gd_t (vp_in_nI (by omega) (by decide)), nI_clamp (by omega)]
      by_cases q : k i = nu i
      · right
        rw [br_t1 q]
        refine ⟨by omega, _, ?_, rfl⟩
        refine ⟨nI_1 i, by omega, fun b hb => ?_⟩
        by_cases e : b = i
        · rw [e]; exact q
        · exact a2 b (by omega)
      · left
        rw [br_f1 q, kI_f (fun h => q (h i (by omega) (by omega)))]
theorem look7_e {f : Fo} (hV : VG f) {kind above edge pool store spot : Nat → Int32} {basins spring hour z : Int32} (hC : CF f kind above edge pool store spot basins spring hour z) {sz : Nat} (hsz : sz ≤ 40) (nu : Nat → Int32) (h1 h2 h3 h4 v1 v2 v3 v4 : Int32) (w1 w2 w3 w4 w5 : Nat → Int32) :
    ∃ (r5 : Nat → Int32) (r6 r7 r8 r9 : Int32) (r10 r11 r12 r13 r14 : Nat → Int32), f_X0_look h1 h2 h3 h4 basins spring kind v1 v2 v3 v4 w1 above edge w2 w3 w4 pool w5 (nI sz) nu =
      some (nI (chS (expl f sz nu) (-1) (nI (2 ^ f.n) - 1) (2 ^ f.n)).1, (chS (expl f sz nu) (-1) (nI (2 ^ f.n) - 1) (2 ^ f.n)).2.1, (chS (expl f sz nu) (-1) (nI (2 ^ f.n) - 1) (2 ^ f.n)).2.2.1, (chS (expl f sz nu) (-1) (nI (2 ^ f.n) - 1) (2 ^ f.n)).2.2.2, r5, r6, r7, r8, r9, r10, r11, r12, r13, r14) := by
  have hn := hV.1
  have hb0 : basins = nI f.n := hC.1
  have hpw := pow_le hn
  obtain ⟨S, hSd⟩ : ∃ S, S = chS (expl f sz nu) (-1) (nI (2 ^ f.n) - 1) := ⟨_, rfl⟩
  have hS0 : S 0 = (0, -1, nI (2 ^ f.n) - 1, 0) := by rw [hSd]; rfl
  have hSt : ∀ i, expl f sz nu i → S (i + 1) = ((S i).1 + 1, (if (S i).1 = 0 then nI i else (S i).2.1), (S i).2.2.1 &&& nI i, (S i).2.2.2 ||| nI i) := fun i h => by rw [hSd]; exact chS_t h
  have hSf : ∀ i, ¬ expl f sz nu i → S (i + 1) = S i := fun i h => by rw [hSd]; exact chS_f h
  have hSl : ∀ i, (S i).1 ≤ i := fun i => by rw [hSd]; exact chS_le i
  rw [← hSd]
  unfold f_X0_look
  rw [hb0, pow_n f.n hn]
  unfold f_X0_look_L30
  refine lp_go2 _ (fun i (s : Int32 × Int32 × Int32 × Int32 × Int32 × (Nat → Int32) × Int32 × Int32 × Int32 × Int32 × (Nat → Int32) × (Nat → Int32) × (Nat → Int32) × (Nat → Int32) × (Nat → Int32)) => s.1 = nI i ∧ s.2.1 = nI (S i).1 ∧ s.2.2.1 = (S i).2.1 ∧ s.2.2.2.1 = (S i).2.2.1 ∧ s.2.2.2.2.1 = (S i).2.2.2 ∧ ∃ K, CF (f.kdF K (fun _ => 0) 0) s.2.2.2.2.2.1 above edge pool store spot (nI f.n) spring hour z) (2 ^ f.n)
    (fun o => ∃ (r5 : Nat → Int32) (r6 r7 r8 r9 : Int32) (r10 r11 r12 r13 r14 : Nat → Int32), o = some (nI (S (2 ^ f.n)).1, (S (2 ^ f.n)).2.1, (S (2 ^ f.n)).2.2.1, (S (2 ^ f.n)).2.2.2, r5, r6, r7, r8, r9, r10, r11, r12, r13, r14)) ?_ _ ⟨rfl, by rw [hS0]; rfl, by rw [hS0], by rw [hS0], by rw [hS0], f.kd, hb0 ▸ hC⟩ (FU_gt (by omega))
  rintro i ⟨y4, a, b, c, d, kd, v1, v2, v3, v4, w1, w2, w3, w4, w5⟩ hi ⟨a1, a2, a3, a4, a5, K, hK⟩ rc
  dsimp only at a1 a2 a3 a4 a5 hK ⊢
  subst a1 a2 a3 a4 a5
  unfold f_X0_look_L30_b
  rw [pow_n f.n hn]
  by_cases hx : i = 2 ^ f.n
  · left
    rw [br_t1 (show nI (2 ^ f.n) ≤ nI i by rw [hx]; exact nI_le (Nat.le_refl _) (by omega)), hx]
    exact ⟨_, _, _, _, _, _, _, _, _, _, rfl⟩
  right
  refine ⟨by omega, ?_⟩
  rw [br_f1 (nI_ge (by omega) (by omega))]
  have hK' : CF (f.kdF K (bitN i) 0) kd above edge pool store spot (nI f.n) spring hour z := hK
  unfold f_X0_look_L44
  refine lp_in f.n (fun j s => s.1 = nI i ∧ s.2.1 = nI j ∧ s.2.2.1 = nI (S i).1 ∧ s.2.2.2.1 = (S i).2.1 ∧ s.2.2.2.2.1 = (S i).2.2.1 ∧ s.2.2.2.2.2.1 = (S i).2.2.2 ∧ CF (f.kdF K (bitN i) j) s.2.2.2.2.2.2.1 above edge pool store spot (nI f.n) spring hour z) ⟨rfl, rfl, rfl, rfl, rfl, rfl, hK'⟩ (FU_gt (by omega)) ?_
  rintro j ⟨y4, y5, a, b, c, d, kd, v1, v2, v3, v4, w1, w2, w3, w4, w5⟩ hj ⟨b1, b2, b3, b4, b5, b6, b7⟩ rd
  dsimp only at b1 b2 b3 b4 b5 b6 b7 ⊢
  subst b1 b2 b3 b4 b5 b6
  unfold f_X0_look_L44_b
  by_cases hjn : j = f.n
  · left
    subst hjn
    rw [br_t1 (nI_le (Nat.le_refl _) (by omega))]
    unfold f_X0_look_J82
    have hVk := VG_setK hV (g := bitN i) (fun b => by have := bitN_le i b; omega)
    have hCk := CF_kdF_n b7
    obtain ⟨w', g', c', k', h', hR, hv⟩ := reckon_c hVk hCk v1 v2 v3 v4 w1 w2 w3 w4 w5
    rw [bd_t hR]
    dsimp only
    rw [bd_t (explains_e hn hsz k' nu), br_kI]
    have hE : (∀ b, b < f.n → b < sz → k' b = nu b) ↔ expl f sz nu i :=
      ⟨fun h b h1 h2 => (hv b h1).2.1.symm.trans (h b h1 h2), fun h b h1 h2 => ((hv b h1).2.1).trans (h b h1 h2)⟩
    have hbk : CF (f.kdF (bitN i) (fun _ => 0) 0) kd above edge pool store spot (nI f.n) spring hour z := hCk
    have hl := hSl i
    by_cases q : expl f sz nu i
    · rw [br_t1 (hE.mpr q)]
      unfold f_X0_note f_X0_note_J12
      have hS1 := hSt i q
      by_cases q0 : (S i).1 = 0
      · rw [br_t1 (show nI (S i).1 = 0 by rw [q0]; rfl), bd_t rfl]
        rw [if_pos q0] at hS1
        refine ⟨_, ?_, rfl⟩
        exact ⟨nI_1 i, by rw [hS1]; exact nI_1 _, by rw [hS1], by rw [hS1], by rw [hS1], _, hbk⟩
      · rw [br_f1 (nI_ne 0 0 q0), bd_t rfl]
        rw [if_neg q0] at hS1
        refine ⟨_, ?_, rfl⟩
        exact ⟨nI_1 i, by rw [hS1]; exact nI_1 _, by rw [hS1], by rw [hS1], by rw [hS1], _, hbk⟩
    · rw [br_f1 (fun h => q (hE.mp h))]
      have hS1 := hSf i q
      refine ⟨_, ?_, rfl⟩
      exact ⟨nI_1 i, by rw [hS1], by rw [hS1], by rw [hS1], by rw [hS1], _, hbk⟩
  · right
    have hj' : j < f.n := by omega
    refine ⟨hj', ?_⟩
    have v : vp_in (nI j) 10 := vp_in_nI (by omega) (by decide)
    have hs := CF_kdF_s b7
    have hbl := bitN_le i j
    rw [br_f1 (nI_ge hj' (by omega)), bitN_e i (b := j) (by omega), gd_t v, gd_t v, nI_clamp (by omega)]
    by_cases q : bitN i j = 1
    · rw [br_t1 (by rw [q]; rfl)]
      rw [q] at hs
      refine ⟨_, ?_, rfl⟩
      exact ⟨rfl, nI_1 _, rfl, rfl, rfl, rfl, hs⟩
    · rw [br_f1 (nI_ne 1 1 q)]
      rw [show bitN i j = 0 by omega] at hs
      refine ⟨_, ?_, rfl⟩
      exact ⟨rfl, nI_1 _, rfl, rfl, rfl, rfl, hs⟩
theorem lsum {a m z : Nat} (ha : a < 2 ^ 31) (hm : m < 2 ^ 31) (hz : z < 2 ^ 31) : (0 < lg_cmp ((nI a).toInt64 + (nI m).toInt64) (nI z).toInt64 ↔ z < a + m) ∧ (lg_cmp ((nI a).toInt64 + (nI m).toInt64) (nI z).toInt64 ≤ 0 ↔ a + m ≤ z) := by
  have e : 0 < lg_cmp ((nI a).toInt64 + (nI m).toInt64) (nI z).toInt64 ↔ z < a + m := by
    rw [lgc_gt, nI_l ha, nI_l hm, nI_l hz, lN_add, pk_lT (by omega), pk_lT (by omega)]
    omega
  refine ⟨e, ?_⟩
  rw [← Int32.not_lt, e]
  omega
theorem RS_copy {bits size : Nat → Int32} {numbers : Nat → Nat → Int32} {bitsOf sizeOf number : Nat → Int32} (h : RS bits size numbers bitsOf sizeOf number) {s t a b m : Nat} (hs : s < 4) (ht : t < 4) (ha : a + m ≤ 40) (hb : b + m ≤ 40) {nu' : Nat → Int32} (h1 : ∀ k, k < m → nu' (40 * t + b + k) = number (40 * s + a + k)) (h2 : ∀ j, (j < 40 * t + b ∨ 40 * t + b + m ≤ j) → nu' j = number j) :
    RS bits size (va_up numbers t (va_cpy (numbers s) (numbers t) a b m)) bitsOf sizeOf nu' := by
  intro u hu
  obtain ⟨g1, g2, g3, g4⟩ := h u hu
  refine ⟨g1, g2, g3, fun k hk => ?_⟩
  by_cases e : u = t
  · subst e
    rw [va_up_s]
    by_cases q : b ≤ k ∧ k < b + m
    · rw [pk_cpy_in q.1 q.2, (h s hs).2.2.2 (a + (k - b)) (by omega)]
      have := h1 (k - b) (by omega)
      rw [show 40 * u + b + (k - b) = 40 * u + k by omega] at this
      rw [this]
      exact congrArg number (by omega)
    · rw [pk_cpy_out (by omega), g4 k hk, h2 _ (by omega)]
  · rw [va_up_n e, g4 k hk, h2 _ (by omega)]
