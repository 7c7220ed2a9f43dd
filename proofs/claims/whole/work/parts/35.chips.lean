/-! ===== cases chips, chipped, copy ===== -/
/-- kinds: the first i as g tells, the others as K -/
def Fo.kdF (f : Fo) (K g : Nat → Nat) (i : Nat) : Fo := (f.n, fun b => if b < i then g b else K b, f.ab, f.ed, f.po, f.st, f.sp, f.sg, f.hr, f.z)
def Fo.setK (f : Fo) (g : Nat → Nat) : Fo := (f.n, g, f.ab, f.ed, f.po, f.st, f.sp, f.sg, f.hr, f.z)
theorem VG_setK {f : Fo} (h : VG f) {g : Nat → Nat} (hg : ∀ b, g b ≤ 6) : VG (f.setK g) := by
  refine ⟨h.1, fun j hj => ?_, h.2.2⟩
  obtain ⟨h1, h2, h3, h4, h5⟩ := h.2.1 j hj
  exact ⟨hg j, h2, h3, h4, h5⟩
theorem CF_kdF_s {f : Fo} {K g : Nat → Nat} {i : Nat} {kind above edge pool store spot : Nat → Int32} {basins spring hour z : Int32} (h : CF (f.kdF K g i) kind above edge pool store spot basins spring hour z) : CF (f.kdF K g (i + 1)) (upd kind i (nI (g i))) above edge pool store spot basins spring hour z := by
  obtain ⟨h0, h1, h2, h3, h4, h5⟩ := h
  refine ⟨h0, h1, h2, h3, fun j hj => ?_, h5⟩
  obtain ⟨a1, a2, a3, a4, a5⟩ := h4 j hj
  refine ⟨?_, a2, a3, a4, a5⟩
  show upd kind i (nI (g i)) j = nI (if j < i + 1 then g j else K j)
  by_cases e : j = i
  · rw [e, pk_us, if_pos (by omega)]
  · rw [pk_un e, a1]
    show nI (if j < i then g j else K j) = _
    by_cases q : j < i
    · rw [if_pos q, if_pos (by omega)]
    · rw [if_neg q, if_neg (by omega)]
theorem CF_kdF_n {f : Fo} {K g : Nat → Nat} {kind above edge pool store spot : Nat → Int32} {basins spring hour z : Int32} (h : CF (f.kdF K g f.n) kind above edge pool store spot basins spring hour z) : CF (f.setK g) kind above edge pool store spot basins spring hour z := by
  obtain ⟨h0, h1, h2, h3, h4, h5⟩ := h
  refine ⟨h0, h1, h2, h3, fun j hj => ?_, h5⟩
  obtain ⟨a1, a2, a3, a4, a5⟩ := h4 j hj
  exact ⟨a1.trans (congrArg nI (if_pos hj)), a2, a3, a4, a5⟩
theorem MF_kdF_s {f : Fo} (hn : f.n ≤ 10) {K g : Nat → Nat} {i : Nat} (hi : i < f.n) {d : Nat → Int32} (h : MF (f.kdF K g i) d) : MF (f.kdF K g (i + 1)) (upd d (4 + 5 * i + 0) (nI (g i))) := by
  have h2 := MF_Kd h hn hi (g i)
  refine MF_eq (f := (f.kdF K g i).setKd i (g i)) (g := f.kdF K g (i + 1)) h2 rfl rfl rfl rfl (fun _ _ => rfl) (fun b hb => ⟨?_, fun _ => rfl, rfl, rfl, rfl⟩)
  show (if b < i + 1 then g b else K b) = fset (fun b => if b < i then g b else K b) i (g i) b
  by_cases e : b = i
  · rw [e, fset_s, if_pos (by omega)]
  · rw [fset_n e]
    by_cases q : b < i
    · rw [if_pos q, if_pos (by omega)]
    · rw [if_neg q, if_neg (by omega)]
theorem MF_kdF_n {f : Fo} {K g : Nat → Nat} {d : Nat → Int32} (h : MF (f.kdF K g f.n) d) : MF (f.setK g) d :=
  MF_eq (f := f.kdF K g f.n) (g := f.setK g) h rfl rfl rfl rfl (fun _ _ => rfl) (fun b hb => ⟨(if_pos hb).symm, fun _ => rfl, rfl, rfl, rfl⟩)
def bitN (i b : Nat) : Nat := if tb (nI i) b = true then 1 else 0
theorem bitN_e (i : Nat) {b : Nat} (hb : b < 10) : (nI i >>> (nI b &&& 31)) &&& 1 = nI (bitN i b) := by
  rw [shr_bit _ hb]
  unfold bitN
  by_cases q : tb (nI i) b = true
  · rw [if_pos q, if_pos q]; rfl
  · rw [if_neg q, if_neg q]; rfl
theorem bitN_le (i b : Nat) : bitN i b ≤ 1 := by
  unfold bitN
  split <;> omega
noncomputable def chS (E : Nat → Prop) (l a : Int32) : Nat → Nat × Int32 × Int32 × Int32
  | 0 => (0, l, a, 0)
  | i + 1 => @ite _ (E i) (Classical.propDecidable _) ((chS E l a i).1 + 1, (if (chS E l a i).1 = 0 then nI i else (chS E l a i).2.1), (chS E l a i).2.2.1 &&& nI i, (chS E l a i).2.2.2 ||| nI i) (chS E l a i)
theorem chS_t {E : Nat → Prop} {l a : Int32} {i : Nat} (h : E i) : chS E l a (i + 1) = ((chS E l a i).1 + 1, (if (chS E l a i).1 = 0 then nI i else (chS E l a i).2.1), (chS E l a i).2.2.1 &&& nI i, (chS E l a i).2.2.2 ||| nI i) := by rw [chS]; exact if_pos h
theorem chS_f {E : Nat → Prop} {l a : Int32} {i : Nat} (h : ¬ E i) : chS E l a (i + 1) = chS E l a i := by rw [chS]; exact if_neg h
theorem chS_le {E : Nat → Prop} {l a : Int32} : ∀ i, (chS E l a i).1 ≤ i
  | 0 => Nat.le_refl _
  | i + 1 => by
    have := chS_le (E := E) (l := l) (a := a) i
    by_cases q : E i
    · rw [chS_t q]; dsimp only; omega
    · rw [chS_f q]; omega
theorem chS_l {E : Nat → Prop} {l m a : Int32} : ∀ i, (chS E l a i).1 = (chS E m a i).1 ∧ (chS E l a i).2.2 = (chS E m a i).2.2 ∧ ((chS E l a i).1 ≠ 0 → (chS E l a i).2.1 = (chS E m a i).2.1)
  | 0 => ⟨rfl, rfl, fun h => absurd rfl h⟩
  | i + 1 => by
    obtain ⟨h1, h2, h3⟩ := chS_l (E := E) (l := l) (m := m) (a := a) i
    by_cases q : E i
    · rw [chS_t q, chS_t q]
      dsimp only
      rw [h1, h2]
      refine ⟨rfl, rfl, fun _ => ?_⟩
      by_cases z : (chS E m a i).1 = 0
      · rw [if_pos z, if_pos z]
      · rw [if_neg z, if_neg z]
        exact h3 (by rw [h1]; exact z)
    · rw [chS_f q, chS_f q]
      exact ⟨h1, h2, h3⟩
theorem pow_n : ∀ n, n ≤ 10 → (1 : Int32) <<< (nI n &&& 31) = nI (2 ^ n) := by
  intro n hn
  rcases (show n = 0 ∨ n = 1 ∨ n = 2 ∨ n = 3 ∨ n = 4 ∨ n = 5 ∨ n = 6 ∨ n = 7 ∨ n = 8 ∨ n = 9 ∨ n = 10 by omega) with rfl | rfl | rfl | rfl | rfl | rfl | rfl | rfl | rfl | rfl | rfl <;> decide
theorem pow_le {n : Nat} (hn : n ≤ 10) : 2 ^ n ≤ 1024 := by
  have h := Nat.pow_le_pow_right (n := 2) (by decide) hn
  omega
/-- a set explains a sheet -/
def expl (f : Fo) (z : Nat) (nu : Nat → Int32) (i : Nat) : Prop := ∀ b, b < f.n → b < z → nI ((f.setK (bitN i)).kp b) = nu b
theorem explains_e {n z : Nat} (hn : n ≤ 10) (hz : z ≤ 40) (k nu : Nat → Int32) : f_X0_explains (nI n) (nI z) k nu = some (kI (∀ b, b < n → b < z → k b = nu b)) := by
  unfold f_X0_explains f_X0_explains_L2
  refine lp_go2 _ (fun i (s : Int32) => s = nI i ∧ i ≤ z ∧ ∀ b, b < i → k b = nu b) n (fun o => o = some (kI (∀ b, b < n → b < z → k b = nu b))) ?_ _ ⟨rfl, Nat.zero_le _, fun b hb => absurd hb (by omega)⟩ (FU_gt (by omega))
  rintro i y hi ⟨a1, a0, a2⟩ rc
  subst a1
  unfold f_X0_explains_L2_b
  by_cases hx : i = n
  · left
    subst hx
    rw [br_t1 (nI_le (Nat.le_refl _) (by omega)), kI_t (fun b hb _ => a2 b hb)]
  · rw [br_f1 (nI_ge (by omega) (by omega))]
    by_cases hy : i = z
    · left
      subst hy
      rw [br_t1 (nI_le (Nat.le_refl _) (by omega)), kI_t (fun b _ hb => a2 b hb)]
    · rw [br_f1 (nI_ge (by omega) (by omega)), gd_t (vp_in_nI (by omega) (by decide)), gd_t (vp_in_nI (by omega) (by decide)), nI_clamp (by omega)]
      by_cases q : k i = nu i
      · right
        rw [br_t1 q]
        refine ⟨by omega, _, ?_, rfl⟩
        refine ⟨nI_1 i, by omega, fun b hb => ?_⟩
        by_cases e : b = i
        · rw [e]; exact q
        · exact a2 b (by omega)
      · left
        rw [br_f1 q, kI_f (fun h => q (h i (by omega) (by omega)))]
theorem look7_e {f : Fo} (hV : VG f) {kind above edge pool store spot : Nat → Int32} {basins spring hour z : Int32} (hC : CF f kind above edge pool store spot basins spring hour z) {sz : Nat} (hsz : sz ≤ 40) (nu : Nat → Int32) (h1 h2 h3 h4 v1 v2 v3 v4 : Int32) (w1 w2 w3 w4 w5 : Nat → Int32) :
    ∃ (r5 : Nat → Int32) (r6 r7 r8 r9 : Int32) (r10 r11 r12 r13 r14 : Nat → Int32), f_X0_look h1 h2 h3 h4 basins spring kind v1 v2 v3 v4 w1 above edge w2 w3 w4 pool w5 (nI sz) nu =
      some (nI (chS (expl f sz nu) (-1) (nI (2 ^ f.n) - 1) (2 ^ f.n)).1, (chS (expl f sz nu) (-1) (nI (2 ^ f.n) - 1) (2 ^ f.n)).2.1, (chS (expl f sz nu) (-1) (nI (2 ^ f.n) - 1) (2 ^ f.n)).2.2.1, (chS (expl f sz nu) (-1) (nI (2 ^ f.n) - 1) (2 ^ f.n)).2.2.2, r5, r6, r7, r8, r9, r10, r11, r12, r13, r14) := by
  have hn := hV.1
  have hb0 : basins = nI f.n := hC.1
  have hpw := pow_le hn
  obtain ⟨S, hSd⟩ : ∃ S, S = chS (expl f sz nu) (-1) (nI (2 ^ f.n) - 1) := ⟨_, rfl⟩
  have hS0 : S 0 = (0, -1, nI (2 ^ f.n) - 1, 0) := by rw [hSd]; rfl
  have hSt : ∀ i, expl f sz nu i → S (i + 1) = ((S i).1 + 1, (if (S i).1 = 0 then nI i else (S i).2.1), (S i).2.2.1 &&& nI i, (S i).2.2.2 ||| nI i) := fun i h => by rw [hSd]; exact chS_t h
  have hSf : ∀ i, ¬ expl f sz nu i → S (i + 1) = S i := fun i h => by rw [hSd]; exact chS_f h
  have hSl : ∀ i, (S i).1 ≤ i := fun i => by rw [hSd]; exact chS_le i
  rw [← hSd]
  unfold f_X0_look
  rw [hb0, pow_n f.n hn]
  unfold f_X0_look_L30
  refine lp_go2 _ (fun i (s : Int32 × Int32 × Int32 × Int32 × Int32 × (Nat → Int32) × Int32 × Int32 × Int32 × Int32 × (Nat → Int32) × (Nat → Int32) × (Nat → Int32) × (Nat → Int32) × (Nat → Int32)) => s.1 = nI i ∧ s.2.1 = nI (S i).1 ∧ s.2.2.1 = (S i).2.1 ∧ s.2.2.2.1 = (S i).2.2.1 ∧ s.2.2.2.2.1 = (S i).2.2.2 ∧ ∃ K, CF (f.kdF K (fun _ => 0) 0) s.2.2.2.2.2.1 above edge pool store spot (nI f.n) spring hour z) (2 ^ f.n)
    (fun o => ∃ (r5 : Nat → Int32) (r6 r7 r8 r9 : Int32) (r10 r11 r12 r13 r14 : Nat → Int32), o = some (nI (S (2 ^ f.n)).1, (S (2 ^ f.n)).2.1, (S (2 ^ f.n)).2.2.1, (S (2 ^ f.n)).2.2.2, r5, r6, r7, r8, r9, r10, r11, r12, r13, r14)) ?_ _ ⟨rfl, by rw [hS0]; rfl, by rw [hS0], by rw [hS0], by rw [hS0], f.kd, hb0 ▸ hC⟩ (FU_gt (by omega))
  rintro i ⟨y4, a, b, c, d, kd, v1, v2, v3, v4, w1, w2, w3, w4, w5⟩ hi ⟨a1, a2, a3, a4, a5, K, hK⟩ rc
  dsimp only at a1 a2 a3 a4 a5 hK ⊢
  subst a1 a2 a3 a4 a5
  unfold f_X0_look_L30_b
  rw [pow_n f.n hn]
  by_cases hx : i = 2 ^ f.n
  · left
    rw [br_t1 (show nI (2 ^ f.n) ≤ nI i by rw [hx]; exact nI_le (Nat.le_refl _) (by omega)), hx]
    exact ⟨_, _, _, _, _, _, _, _, _, _, rfl⟩
  right
  refine ⟨by omega, ?_⟩
  rw [br_f1 (nI_ge (by omega) (by omega))]
  have hK' : CF (f.kdF K (bitN i) 0) kd above edge pool store spot (nI f.n) spring hour z := hK
  unfold f_X0_look_L44
  refine lp_in f.n (fun j s => s.1 = nI i ∧ s.2.1 = nI j ∧ s.2.2.1 = nI (S i).1 ∧ s.2.2.2.1 = (S i).2.1 ∧ s.2.2.2.2.1 = (S i).2.2.1 ∧ s.2.2.2.2.2.1 = (S i).2.2.2 ∧ CF (f.kdF K (bitN i) j) s.2.2.2.2.2.2.1 above edge pool store spot (nI f.n) spring hour z) ⟨rfl, rfl, rfl, rfl, rfl, rfl, hK'⟩ (FU_gt (by omega)) ?_
  rintro j ⟨y4, y5, a, b, c, d, kd, v1, v2, v3, v4, w1, w2, w3, w4, w5⟩ hj ⟨b1, b2, b3, b4, b5, b6, b7⟩ rd
  dsimp only at b1 b2 b3 b4 b5 b6 b7 ⊢
  subst b1 b2 b3 b4 b5 b6
  unfold f_X0_look_L44_b
  by_cases hjn : j = f.n
  · left
    subst hjn
    rw [br_t1 (nI_le (Nat.le_refl _) (by omega))]
    unfold f_X0_look_J82
    have hVk := VG_setK hV (g := bitN i) (fun b => by have := bitN_le i b; omega)
    have hCk := CF_kdF_n b7
    obtain ⟨w', g', c', k', h', hR, hv⟩ := reckon_c hVk hCk v1 v2 v3 v4 w1 w2 w3 w4 w5
    rw [bd_t hR]
    dsimp only
    rw [bd_t (explains_e hn hsz k' nu), br_kI]
    have hE : (∀ b, b < f.n → b < sz → k' b = nu b) ↔ expl f sz nu i :=
      ⟨fun h b h1 h2 => (hv b h1).2.1.symm.trans (h b h1 h2), fun h b h1 h2 => ((hv b h1).2.1).trans (h b h1 h2)⟩
    have hbk : CF (f.kdF (bitN i) (fun _ => 0) 0) kd above edge pool store spot (nI f.n) spring hour z := hCk
    have hl := hSl i
    by_cases q : expl f sz nu i
    · rw [br_t1 (hE.mpr q)]
      unfold f_X0_note f_X0_note_J12
      have hS1 := hSt i q
      by_cases q0 : (S i).1 = 0
      · rw [br_t1 (show nI (S i).1 = 0 by rw [q0]; rfl), bd_t rfl]
        rw [if_pos q0] at hS1
        refine ⟨_, ?_, rfl⟩
        exact ⟨nI_1 i, by rw [hS1]; exact nI_1 _, by rw [hS1], by rw [hS1], by rw [hS1], _, hbk⟩
      · rw [br_f1 (nI_ne 0 0 q0), bd_t rfl]
        rw [if_neg q0] at hS1
        refine ⟨_, ?_, rfl⟩
        exact ⟨nI_1 i, by rw [hS1]; exact nI_1 _, by rw [hS1], by rw [hS1], by rw [hS1], _, hbk⟩
    · rw [br_f1 (fun h => q (hE.mp h))]
      have hS1 := hSf i q
      refine ⟨_, ?_, rfl⟩
      exact ⟨nI_1 i, by rw [hS1], by rw [hS1], by rw [hS1], by rw [hS1], _, hbk⟩
  · right
    have hj' : j < f.n := by omega
    refine ⟨hj', ?_⟩
    have v : vp_in (nI j) 10 := vp_in_nI (by omega) (by decide)
    have hs := CF_kdF_s b7
    have hbl := bitN_le i j
    rw [br_f1 (nI_ge hj' (by omega)), bitN_e i (b := j) (by omega), gd_t v, gd_t v, nI_clamp (by omega)]
    by_cases q : bitN i j = 1
    · rw [br_t1 (by rw [q]; rfl)]
      rw [q] at hs
      refine ⟨_, ?_, rfl⟩
      exact ⟨rfl, nI_1 _, rfl, rfl, rfl, rfl, hs⟩
    · rw [br_f1 (nI_ne 1 1 q)]
      rw [show bitN i j = 0 by omega] at hs
      refine ⟨_, ?_, rfl⟩
      exact ⟨rfl, nI_1 _, rfl, rfl, rfl, rfl, hs⟩
theorem find8_e {f : Fo} (hV : VG f) {d : Nat → Int32} (hM : MF f d) {t sz : Nat} (ht : t < 4) (hsz : sz ≤ 40) (nu : Nat → Int32) {so number : Nat → Int32} (hso : so t = nI sz) (hnu : ∀ k, k < 40 → nu k = number (40 * t + k)) (vl vk vo h1 h2 h3 h4 : Int32) (e came got held off : Nat → Int32) :
    ∃ (vl' vk' vo' : Int32) (d' e' c g h o : Nat → Int32), f_X8_findChips (nI t) vl vk vo h1 h2 h3 h4 d e came got held off so number =
      some (vl', vk', vo', nI (chS (expl f sz nu) 0 (nI (2 ^ f.n) - 1) (2 ^ f.n)).1, (chS (expl f sz nu) 0 (nI (2 ^ f.n) - 1) (2 ^ f.n)).2.1, (chS (expl f sz nu) 0 (nI (2 ^ f.n) - 1) (2 ^ f.n)).2.2.1, (chS (expl f sz nu) 0 (nI (2 ^ f.n) - 1) (2 ^ f.n)).2.2.2, d', e', c, g, h, o) ∧ ∀ j, j < 64 → d' j = d j := by
  have hn := hV.1
  have hpw := pow_le hn
  have vt : vp_in (nI t) 4 := vp_in_nI ht (by decide)
  obtain ⟨S, hSd⟩ : ∃ S, S = chS (expl f sz nu) 0 (nI (2 ^ f.n) - 1) := ⟨_, rfl⟩
  have hS0 : S 0 = (0, 0, nI (2 ^ f.n) - 1, 0) := by rw [hSd]; rfl
  have hSt : ∀ i, expl f sz nu i → S (i + 1) = ((S i).1 + 1, (if (S i).1 = 0 then nI i else (S i).2.1), (S i).2.2.1 &&& nI i, (S i).2.2.2 ||| nI i) := fun i h => by rw [hSd]; exact chS_t h
  have hSf : ∀ i, ¬ expl f sz nu i → S (i + 1) = S i := fun i h => by rw [hSd]; exact chS_f h
  have hSl : ∀ i, (S i).1 ≤ i := fun i => by rw [hSd]; exact chS_le i
  rw [← hSd]
  obtain ⟨F0, hF0, hF1⟩ := copies_e d e
  unfold f_X8_findChips
  rw [bd_t hF0, show d (0 : Int32).toNatClampNeg = nI f.n from hM.1, pow_n f.n hn]
  unfold f_X8_findChips_L42
  refine lp_go2 _ (fun i (s : Int32 × Int32 × Int32 × Int32 × Int32 × Int32 × Int32 × Int32 × (Nat → Int32) × (Nat → Int32) × (Nat → Int32) × (Nat → Int32) × (Nat → Int32) × (Nat → Int32)) => s.1 = nI i ∧ s.2.2.2.2.1 = nI (S i).1 ∧ s.2.2.2.2.2.1 = (S i).2.1 ∧ s.2.2.2.2.2.2.1 = (S i).2.2.1 ∧ s.2.2.2.2.2.2.2.1 = (S i).2.2.2 ∧ s.2.2.2.2.2.2.2.2.2.1 = F0 ∧ ∃ K, MF (f.kdF K (fun _ => 0) 0) s.2.2.2.2.2.2.2.2.1) (2 ^ f.n)
    (fun r => ∃ (vl' vk' vo' : Int32) (d' e' c g h o : Nat → Int32), r = some (vl', vk', vo', nI (S (2 ^ f.n)).1, (S (2 ^ f.n)).2.1, (S (2 ^ f.n)).2.2.1, (S (2 ^ f.n)).2.2.2, d', e', c, g, h, o) ∧ ∀ j, j < 64 → d' j = d j) ?_ _ ⟨rfl, by rw [hS0]; rfl, by rw [hS0], by rw [hS0], by rw [hS0], rfl, f.kd, hM⟩ (FU_gt (by omega))
  rintro i ⟨y2, vl, vk, vo, q1, q2, q3, q4, d1, e1, c1, g1, h1, o1⟩ hi ⟨a1, a2, a3, a4, a5, a6, K, hK⟩ rc
  dsimp only at a1 a2 a3 a4 a5 a6 hK ⊢
  subst a1 a2 a3 a4 a5 a6
  unfold f_X8_findChips_L42_b
  rw [show d1 (0 : Int32).toNatClampNeg = nI f.n from hK.1, pow_n f.n hn]
  by_cases hx : i = 2 ^ f.n
  · left
    obtain ⟨D, hD, hD2⟩ := copies_e e1 d1
    rw [br_t1 (show nI (2 ^ f.n) ≤ nI i by rw [hx]; exact nI_le (Nat.le_refl _) (by omega)), hx]
    unfold f_X8_findChips_J211
    rw [bd_t hD]
    exact ⟨_, _, _, _, _, _, _, _, _, rfl, fun j hj => (hD2 j hj).trans (hF1 j hj)⟩
  right
  refine ⟨by omega, ?_⟩
  rw [br_f1 (nI_ge (by omega) (by omega))]
  have hK' : MF (f.kdF K (bitN i) 0) d1 := hK
  unfold f_X8_findChips_L56
  refine lp_in f.n (fun j s => s.1 = nI i ∧ s.2.1 = nI j ∧ s.2.2.2.2.2.1 = nI (S i).1 ∧ s.2.2.2.2.2.2.1 = (S i).2.1 ∧ s.2.2.2.2.2.2.2.1 = (S i).2.2.1 ∧ s.2.2.2.2.2.2.2.2.1 = (S i).2.2.2 ∧ s.2.2.2.2.2.2.2.2.2.2.1 = e1 ∧ MF (f.kdF K (bitN i) j) s.2.2.2.2.2.2.2.2.2.1) ⟨rfl, rfl, rfl, rfl, rfl, rfl, rfl, hK'⟩ (FU_gt (by omega)) ?_
  rintro j ⟨y2, y3, vl, vk, vo, q1, q2, q3, q4, d2, e2, c2, g2, h2, o2⟩ hj ⟨b1, b2, b3, b4, b5, b6, b8, b7⟩ rd
  dsimp only at b1 b2 b3 b4 b5 b6 b7 b8 ⊢
  subst b1 b2 b3 b4 b5 b6 b8
  unfold f_X8_findChips_L56_b
  rw [show d2 (0 : Int32).toNatClampNeg = nI f.n from b7.1]
  by_cases hjn : j = f.n
  · left
    subst hjn
    rw [br_t1 (nI_le (Nat.le_refl _) (by omega))]
    unfold f_X8_findChips_J83
    have hVk := VG_setK hV (g := bitN i) (fun b => by have := bitN_le i b; omega)
    have hMk := MF_kdF_n b7
    obtain ⟨c, g, h, o, hL, hv⟩ := look_e hVk hMk vl vk vo c2 g2 h2 o2
    rw [bd_t hL]
    dsimp only
    unfold f_X8_findChips_L92
    refine lp_in f.n (fun b s => s.1 = nI i ∧ s.2.1 = kI (∀ a, a < b → a < sz → nI ((f.setK (bitN i)).kp a) = nu a) ∧ s.2.2.1 = nI b ∧ s.2.2.2.2.2.2.1 = nI (S i).1 ∧ s.2.2.2.2.2.2.2.1 = (S i).2.1 ∧ s.2.2.2.2.2.2.2.2.1 = (S i).2.2.1 ∧ s.2.2.2.2.2.2.2.2.2.1 = (S i).2.2.2 ∧ s.2.2.2.2.2.2.2.2.2.2.2.1 = e2 ∧ s.2.2.2.2.2.2.2.2.2.2.1 = d2 ∧ s.2.2.2.2.2.2.2.2.2.2.2.2.2.1 = g ∧ b ≤ sz) ⟨rfl, (kI_t (fun a ha => absurd ha (by omega))).symm, rfl, rfl, rfl, rfl, rfl, rfl, rfl, rfl, Nat.zero_le _⟩ (FU_gt (by omega)) ?_
    rintro b ⟨y2, y3, y4, vl, vk, vo, q1, q2, q3, q4, d3, e3, c3, g3, h3, o3⟩ hb ⟨c1, c2, c3, c4, c5, c6, c7, c8, c9, c10, c11⟩ re
    dsimp only at c1 c2 c3 c4 c5 c6 c7 c8 c9 c10 c11 ⊢
    subst c1 c2 c3 c4 c5 c6 c7 c8 c9 c10
    unfold f_X8_findChips_L92_b
    have fin : ∀ {P : Prop}, (P ↔ expl f sz nu i) → ∃ s9 : Int32 × Int32 × Int32 × Int32 × Int32 × Int32 × Int32 × Int32 × (Nat → Int32) × (Nat → Int32) × (Nat → Int32) × (Nat → Int32) × (Nat → Int32) × (Nat → Int32), (s9.1 = nI (i + 1) ∧ s9.2.2.2.2.1 = nI (S (i + 1)).1 ∧ s9.2.2.2.2.2.1 = (S (i + 1)).2.1 ∧ s9.2.2.2.2.2.2.1 = (S (i + 1)).2.2.1 ∧ s9.2.2.2.2.2.2.2.1 = (S (i + 1)).2.2.2 ∧ s9.2.2.2.2.2.2.2.2.2.1 = e3 ∧ ∃ K, MF (f.kdF K (fun _ => 0) 0) s9.2.2.2.2.2.2.2.2.1) ∧ f_X8_findChips_J152 (nI t) so number rc (nI i) (kI P) vl vk vo (nI (S i).1) (S i).2.1 (S i).2.2.1 (S i).2.2.2 d3 e3 c3 g3 h3 o3 = rc s9 := by
      intro P hP
      have hbk : MF (f.kdF (bitN i) (fun _ => 0) 0) d3 := hMk
      have hl := hSl i
      unfold f_X8_findChips_J152 f_X8_findChips_J172
      rw [br_kI]
      by_cases q : expl f sz nu i
      · have hS1 := hSt i q
        rw [br_t1 (hP.mpr q)]
        by_cases q0 : (S i).1 = 0
        · rw [br_t1 (show nI (S i).1 = 0 by rw [q0]; rfl)]
          rw [if_pos q0] at hS1
          refine ⟨_, ?_, rfl⟩
          exact ⟨nI_1 i, by rw [hS1]; exact nI_1 _, by rw [hS1], by rw [hS1], by rw [hS1], rfl, _, hbk⟩
        · rw [br_f1 (nI_ne 0 0 q0)]
          rw [if_neg q0] at hS1
          refine ⟨_, ?_, rfl⟩
          exact ⟨nI_1 i, by rw [hS1]; exact nI_1 _, by rw [hS1], by rw [hS1], by rw [hS1], rfl, _, hbk⟩
      · have hS1 := hSf i q
        rw [br_f1 (fun h => q (hP.mp h))]
        refine ⟨_, ?_, rfl⟩
        exact ⟨nI_1 i, by rw [hS1], by rw [hS1], by rw [hS1], by rw [hS1], rfl, _, hbk⟩
    rw [show d3 (0 : Int32).toNatClampNeg = nI f.n from hMk.1]
    by_cases hbn : b = f.n
    · left
      subst hbn
      rw [br_t1 (nI_le (Nat.le_refl _) (by omega))]
      exact fin ⟨fun h a h1 h2 => h a h1 h2, fun h a h1 h2 => h a h1 h2⟩
    have hb' : b < f.n := by omega
    rw [br_f1 (nI_ge hb' (by omega)), gd_t vt, nI_clamp (show t < 2 ^ 31 by omega), hso]
    by_cases hbz : b = sz
    · left
      subst hbz
      rw [br_t1 (nI_le (Nat.le_refl _) (by omega))]
      exact fin ⟨fun h a h1 h2 => h a h2 h2, fun h a h1 h2 => h a (by omega) h2⟩
    right
    refine ⟨hb', ?_⟩
    rw [br_f1 (nI_ge (by omega) (by omega)), br_kI]
    have hg3 : g3 b = nI ((f.setK (bitN i)).kp b) := (hv b hb').2.1
    by_cases q : ∀ a, a < b → a < sz → nI ((f.setK (bitN i)).kp a) = nu a
    · rw [br_t1 q, gd_t (vp_in_nI (by omega) (by decide)), ix40, gd_t (vp_in_nI (by omega) (by decide)), nI_clamp (show b < 2 ^ 31 by omega), nI_clamp (show 40 * t + b < 2 ^ 31 by omega), hg3, ← hnu b (by omega)]
      by_cases q2 : nI ((f.setK (bitN i)).kp b) = nu b
      · rw [br_t1 q2]
        refine ⟨_, ?_, rfl⟩
        refine ⟨rfl, (kI_t (fun a ha hz => ?_)).symm, nI_1 _, rfl, rfl, rfl, rfl, rfl, rfl, rfl, by omega⟩
        by_cases e : a = b
        · rw [e]; exact q2
        · exact q a (by omega) hz
      · rw [br_f1 q2]
        refine ⟨_, ?_, rfl⟩
        exact ⟨rfl, (kI_f (fun h => q2 (h b (by omega) (by omega)))).symm, nI_1 _, rfl, rfl, rfl, rfl, rfl, rfl, rfl, by omega⟩
    · rw [br_f1 q]
      refine ⟨_, ?_, rfl⟩
      exact ⟨rfl, (kI_f (fun h => q (fun a ha hz => h a (by omega) hz))).symm, nI_1 _, rfl, rfl, rfl, rfl, rfl, rfl, rfl, by omega⟩
  · right
    have hj' : j < f.n := by omega
    refine ⟨hj', ?_⟩
    rw [br_f1 (nI_ge hj' (by omega)), bitN_e i (b := j) (by omega), bd_t (show f_X8_sets (nI j) (0 : Int32) _ d2 = _ from sets_e (c := 0) (by omega) _ _)]
    refine ⟨_, ?_, rfl⟩
    exact ⟨rfl, nI_1 _, rfl, rfl, rfl, rfl, rfl, MF_kdF_s hn hj' b7⟩
theorem L_chips (x1 : Int32) (cT_present_kind : Nat → Int32) (cT_present_above : Nat → Int32) (cT_present_edge : Nat → Int32) (cT_present_pool : Nat → Int32) (cT_present_store : Nat → Int32) (cT_present_spot : Nat → Int32) (vT_present_basins : Int32) (vT_present_spring : Int32) (vT_present_hour : Int32) (vT_present_z : Int32) (vT_pictured : Int32) (cT_picture_kind : Nat → Int32) (cT_picture_above : Nat → Int32) (cT_picture_edge : Nat → Int32) (cT_picture_pool : Nat → Int32) (cT_picture_store : Nat → Int32) (cT_picture_spot : Nat → Int32) (vT_picture_basins : Int32) (vT_picture_spring : Int32) (vT_picture_hour : Int32) (vT_picture_z : Int32) (cT_told : Nat → Int32) (cT_tape_bytes : Nat → Int32) (vT_tape_size : Int32) (vT_sheets_bits : Nat → Int32) (vT_sheets_size : Nat → Int32) (cT_sheets_numbers : Nat → Nat → Int32) (cM_d : Nat → Int32) (vM_isKept : Int32) (cM_kept : Nat → Int32) (cM_found : Nat → Int32) (cM_tape : Nat → Int32) (vM_taped : Int32) (cM_bitsOf : Nat → Int32) (cM_sizeOf : Nat → Int32) (cM_number : Nat → Int32) (vT_trial_basins : Int32) (vT_trial_spring : Int32) (vT_trial_hour : Int32) (vT_trial_z : Int32) (cT_trial_kind : Nat → Int32) (cT_trial_above : Nat → Int32) (cT_trial_edge : Nat → Int32) (cT_trial_pool : Nat → Int32) (cT_trial_store : Nat → Int32) (cT_trial_spot : Nat → Int32) (vT_search_sets : Int32) (vT_search_least : Int32) (vT_search_inAll : Int32) (vT_search_inAny : Int32) (vT_flow_kept : Int32) (vT_flow_leaked : Int32) (vT_flow_ranOff : Int32) (vT_flow_uneven : Int32) (cT_flow_width : Nat → Int32) (cT_flow_goesOn : Nat → Int32) (cT_flow_comes : Nat → Int32) (cT_flow_keeps : Nat → Int32) (cT_flow_holds : Nat → Int32) (vM_leaked : Int32) (vM_keptAll : Int32) (vM_offAll : Int32) (vM_fitting : Int32) (vM_firstSet : Int32) (vM_inAll : Int32) (vM_inAny : Int32) (cM_e : Nat → Int32) (cM_came : Nat → Int32) (cM_got : Nat → Int32) (cM_held : Nat → Int32) (cM_off : Nat → Int32) (hI : Inv cT_present_kind cT_present_above cT_present_edge cT_present_pool cT_present_store cT_present_spot vT_present_basins vT_present_spring vT_present_hour vT_present_z vT_pictured cT_picture_kind cT_picture_above cT_picture_edge cT_picture_pool cT_picture_store cT_picture_spot vT_picture_basins vT_picture_spring vT_picture_hour vT_picture_z cT_told cT_tape_bytes vT_tape_size vT_sheets_bits vT_sheets_size cT_sheets_numbers cM_d vM_isKept cM_kept cM_found cM_tape vM_taped cM_bitsOf cM_sizeOf cM_number) : ∃ (u : Int32 × Int32 × Int32 × Int32 × Int32 × (Nat → Int32) × (Nat → Int32) × (Nat → Int32) × (Nat → Int32) × (Nat → Int32) × (Nat → Int32) × Int32 × Int32 × Int32 × Int32 × Int32 × Int32 × Int32 × Int32 × (Nat → Int32) × (Nat → Int32) × (Nat → Int32) × (Nat → Int32) × (Nat → Int32) × (Nat → Int32)) (v : Int32 × Int32 × Int32 × Int32 × Int32 × Int32 × Int32 × Int32 × (Nat → Int32) × (Nat → Int32) × (Nat → Int32) × (Nat → Int32) × (Nat → Int32) × (Nat → Int32) × (Nat → Int32)), f_X7_chips x1 vT_pictured vT_sheets_bits vT_sheets_size cT_sheets_numbers vT_trial_basins vT_trial_spring vT_trial_hour vT_trial_z vT_present_basins vT_present_spring vT_present_hour vT_present_z cT_present_kind cT_trial_kind cT_present_above cT_trial_above cT_present_edge cT_trial_edge cT_present_pool cT_trial_pool cT_present_store cT_trial_store cT_present_spot cT_trial_spot vT_search_sets vT_search_least vT_search_inAll vT_search_inAny vT_flow_kept vT_flow_leaked vT_flow_ranOff vT_flow_uneven cT_flow_width cT_flow_goesOn cT_flow_comes cT_flow_keeps cT_flow_holds cT_told = some u ∧ f_X8_chips x1 vM_leaked vM_keptAll vM_offAll vM_fitting vM_firstSet vM_inAll vM_inAny cM_bitsOf cM_d cM_e cM_came cM_got cM_held cM_off cM_sizeOf cM_number cM_found = some v ∧ u.1 = v.1 ∧ Inv cT_present_kind cT_present_above cT_present_edge cT_present_pool cT_present_store cT_present_spot vT_present_basins vT_present_spring vT_present_hour vT_present_z vT_pictured cT_picture_kind cT_picture_above cT_picture_edge cT_picture_pool cT_picture_store cT_picture_spot vT_picture_basins vT_picture_spring vT_picture_hour vT_picture_z u.2.2.2.2.2.2.2.2.2.2.2.2.2.2.2.2.2.2.2.2.2.2.2.2 cT_tape_bytes vT_tape_size vT_sheets_bits vT_sheets_size cT_sheets_numbers v.2.2.2.2.2.2.2.2.1 vM_isKept cM_kept v.2.2.2.2.2.2.2.2.2.2.2.2.2.2 cM_tape vM_taped cM_bitsOf cM_sizeOf cM_number := by
  obtain ⟨⟨f, hV, hC, hM⟩, hI2, hT, hP, hS⟩ := hI
  have hF : RF cT_present_kind cT_present_above cT_present_edge cT_present_pool cT_present_store cT_present_spot vT_present_basins vT_present_spring vT_present_hour vT_present_z cM_d := ⟨f, hV, hC, hM⟩
  have hn : f.n ≤ 10 := hV.1
  have hG : VG f := VG_of hV
  obtain rfl := hC.1
  obtain rfl := hC.2.1
  obtain rfl := hC.2.2.1
  have hh : f.hr ≤ 9999 := hV.2.2.2.1
  unfold f_X7_chips f_X8_chips
  by_cases hs : rg 0 3 x1
  rotate_left
  · rw [br_f1 (fun h => hs (k_sheet_iff.mp h)), bd_t (tell0 _), bd_t (whyNone_n hs _), br_f1 (by decide), bd_t (finds0 _)]
    exact ⟨_, _, rfl, rfl, rfl, hF, hI2, RT_tell hT 0, hP, hS⟩
  rw [br_t1 (k_sheet_iff.mpr hs)]
  obtain ⟨t, -, ht3, rfl⟩ := hs
  have ht : t < 4 := by omega
  obtain ⟨hb1, hb2, ⟨n, hn40, hs1, hs2⟩, hnum⟩ := hS t ht
  rw [nI_clamp (by omega)]
  by_cases hb : vT_sheets_bits t = 0
  · rw [bd_t (isMissing_0 hb), br_f1 (by decide), bd_t (tell5 _), bd_t (whyNone_0 ht (hb1 ▸ hb)), br_f1 (by decide), bd_t (finds5 _)]
    exact ⟨_, _, rfl, rfl, rfl, hF, hI2, RT_tell hT 5, hP, hS⟩
  obtain ⟨tk', ta', te', tp', ts', tt', hSt, hCt⟩ := start_e hn hC vT_trial_basins vT_trial_spring vT_trial_hour vT_trial_z cT_trial_kind cT_trial_above cT_trial_edge cT_trial_pool cT_trial_store cT_trial_spot
  rw [bd_t (isMissing_1 hb), br_t1 rfl, bd_t (whyNone_1 ht (fun h => hb (hb1.trans h))), br_t1 (show (-1 : Int32) < 0 by decide), bd_t hSt, hs1]
  dsimp only
  obtain ⟨r5, r6, r7, r8, r9, r10, r11, r12, r13, r14, hL⟩ := look7_e hG hCt hn40 (cT_sheets_numbers t) vT_search_sets vT_search_least vT_search_inAll vT_search_inAny vT_flow_kept vT_flow_leaked vT_flow_ranOff vT_flow_uneven cT_flow_width cT_flow_goesOn cT_flow_comes cT_flow_keeps cT_flow_holds
  obtain ⟨vl', vk', vo', d', e', c, g, h, o, h8, hd⟩ := find8_e hG hM ht hn40 (cT_sheets_numbers t) hs2 hnum vM_leaked vM_keptAll vM_offAll vM_fitting vM_firstSet vM_inAll vM_inAny cM_e cM_came cM_got cM_held cM_off
  rw [bd_t hL, bd_t h8]
  exact ⟨_, _, rfl, rfl, congrArg nI (chS_l _).1, ⟨f, hV, hC, MF_cong hn hM hd⟩, hI2, hT, hP, hS⟩
theorem L_chipped (x1 x2 : Int32) (cT_present_kind : Nat → Int32) (cT_present_above : Nat → Int32) (cT_present_edge : Nat → Int32) (cT_present_pool : Nat → Int32) (cT_present_store : Nat → Int32) (cT_present_spot : Nat → Int32) (vT_present_basins : Int32) (vT_present_spring : Int32) (vT_present_hour : Int32) (vT_present_z : Int32) (vT_pictured : Int32) (cT_picture_kind : Nat → Int32) (cT_picture_above : Nat → Int32) (cT_picture_edge : Nat → Int32) (cT_picture_pool : Nat → Int32) (cT_picture_store : Nat → Int32) (cT_picture_spot : Nat → Int32) (vT_picture_basins : Int32) (vT_picture_spring : Int32) (vT_picture_hour : Int32) (vT_picture_z : Int32) (cT_told : Nat → Int32) (cT_tape_bytes : Nat → Int32) (vT_tape_size : Int32) (vT_sheets_bits : Nat → Int32) (vT_sheets_size : Nat → Int32) (cT_sheets_numbers : Nat → Nat → Int32) (cM_d : Nat → Int32) (vM_isKept : Int32) (cM_kept : Nat → Int32) (cM_found : Nat → Int32) (cM_tape : Nat → Int32) (vM_taped : Int32) (cM_bitsOf : Nat → Int32) (cM_sizeOf : Nat → Int32) (cM_number : Nat → Int32) (vT_trial_basins : Int32) (vT_trial_spring : Int32) (vT_trial_hour : Int32) (vT_trial_z : Int32) (cT_trial_kind : Nat → Int32) (cT_trial_above : Nat → Int32) (cT_trial_edge : Nat → Int32) (cT_trial_pool : Nat → Int32) (cT_trial_store : Nat → Int32) (cT_trial_spot : Nat → Int32) (vT_search_sets : Int32) (vT_search_least : Int32) (vT_search_inAll : Int32) (vT_search_inAny : Int32) (vT_flow_kept : Int32) (vT_flow_leaked : Int32) (vT_flow_ranOff : Int32) (vT_flow_uneven : Int32) (cT_flow_width : Nat → Int32) (cT_flow_goesOn : Nat → Int32) (cT_flow_comes : Nat → Int32) (cT_flow_keeps : Nat → Int32) (cT_flow_holds : Nat → Int32) (vM_leaked : Int32) (vM_keptAll : Int32) (vM_offAll : Int32) (vM_fitting : Int32) (vM_firstSet : Int32) (vM_inAll : Int32) (vM_inAny : Int32) (cM_e : Nat → Int32) (cM_came : Nat → Int32) (cM_got : Nat → Int32) (cM_held : Nat → Int32) (cM_off : Nat → Int32) (hI : Inv cT_present_kind cT_present_above cT_present_edge cT_present_pool cT_present_store cT_present_spot vT_present_basins vT_present_spring vT_present_hour vT_present_z vT_pictured cT_picture_kind cT_picture_above cT_picture_edge cT_picture_pool cT_picture_store cT_picture_spot vT_picture_basins vT_picture_spring vT_picture_hour vT_picture_z cT_told cT_tape_bytes vT_tape_size vT_sheets_bits vT_sheets_size cT_sheets_numbers cM_d vM_isKept cM_kept cM_found cM_tape vM_taped cM_bitsOf cM_sizeOf cM_number) : ∃ (u : Int32 × Int32 × Int32 × Int32 × Int32 × (Nat → Int32) × (Nat → Int32) × (Nat → Int32) × (Nat → Int32) × (Nat → Int32) × (Nat → Int32) × Int32 × Int32 × Int32 × Int32 × Int32 × Int32 × Int32 × Int32 × (Nat → Int32) × (Nat → Int32) × (Nat → Int32) × (Nat → Int32) × (Nat → Int32) × (Nat → Int32)) (v : Int32 × Int32 × Int32 × Int32 × Int32 × Int32 × Int32 × Int32 × (Nat → Int32) × (Nat → Int32) × (Nat → Int32) × (Nat → Int32) × (Nat → Int32) × (Nat → Int32) × (Nat → Int32)), f_X7_chipped x1 x2 vT_pictured vT_sheets_bits vT_sheets_size cT_sheets_numbers vT_trial_basins vT_trial_spring vT_trial_hour vT_trial_z vT_present_basins vT_present_spring vT_present_hour vT_present_z cT_present_kind cT_trial_kind cT_present_above cT_trial_above cT_present_edge cT_trial_edge cT_present_pool cT_trial_pool cT_present_store cT_trial_store cT_present_spot cT_trial_spot vT_search_sets vT_search_least vT_search_inAll vT_search_inAny vT_flow_kept vT_flow_leaked vT_flow_ranOff vT_flow_uneven cT_flow_width cT_flow_goesOn cT_flow_comes cT_flow_keeps cT_flow_holds cT_told = some u ∧ f_X8_chipped x1 x2 vM_leaked vM_keptAll vM_offAll vM_fitting vM_firstSet vM_inAll vM_inAny cM_bitsOf cM_d cM_e cM_came cM_got cM_held cM_off cM_sizeOf cM_number cM_found = some v ∧ u.1 = v.1 ∧ Inv cT_present_kind cT_present_above cT_present_edge cT_present_pool cT_present_store cT_present_spot vT_present_basins vT_present_spring vT_present_hour vT_present_z vT_pictured cT_picture_kind cT_picture_above cT_picture_edge cT_picture_pool cT_picture_store cT_picture_spot vT_picture_basins vT_picture_spring vT_picture_hour vT_picture_z u.2.2.2.2.2.2.2.2.2.2.2.2.2.2.2.2.2.2.2.2.2.2.2.2 cT_tape_bytes vT_tape_size vT_sheets_bits vT_sheets_size cT_sheets_numbers v.2.2.2.2.2.2.2.2.1 vM_isKept cM_kept v.2.2.2.2.2.2.2.2.2.2.2.2.2.2 cM_tape vM_taped cM_bitsOf cM_sizeOf cM_number := by
  obtain ⟨⟨f, hV, hC, hM⟩, hI2, hT, hP, hS⟩ := hI
  have hF : RF cT_present_kind cT_present_above cT_present_edge cT_present_pool cT_present_store cT_present_spot vT_present_basins vT_present_spring vT_present_hour vT_present_z cM_d := ⟨f, hV, hC, hM⟩
  have hn : f.n ≤ 10 := hV.1
  have hG : VG f := VG_of hV
  obtain rfl := hC.1
  obtain rfl := hC.2.1
  obtain rfl := hC.2.2.1
  have hh : f.hr ≤ 9999 := hV.2.2.2.1
  have h71 : f_X7_within x2 (0 : Int32) (2 : Int32) = some (kI (rg 0 2 x2)) := within_n (by decide) (by decide) x2
  have h81 : f_X8_in x2.toInt64 (0 : Int64) (2 : Int64) = some (kI (rg 0 2 x2)) := in_n (by decide) rfl rfl x2
  unfold f_X7_chipped f_X8_chipped
  rw [bd_t h81, br_kI]
  by_cases hs : rg 0 3 x1
  rotate_left
  · rw [br_f1 (fun h => hs (k_sheet_iff.mp h)), bd_t (tell0 _)]
    by_cases hw : rg 0 2 x2
    · rw [br_t1 hw, bd_t (whyNone_n hs _), br_f1 (by decide), bd_t (finds0 _)]
      exact ⟨_, _, rfl, rfl, rfl, hF, hI2, RT_tell hT 0, hP, hS⟩
    · rw [br_f1 hw, bd_t (finds0 _)]
      exact ⟨_, _, rfl, rfl, rfl, hF, hI2, RT_tell hT 0, hP, hS⟩
  rw [br_t1 (k_sheet_iff.mpr hs), bd_t h71, br_kI]
  by_cases hw : rg 0 2 x2
  rotate_left
  · rw [br_f1 hw, br_f1 hw, bd_t (tell0 _), bd_t (finds0 _)]
    exact ⟨_, _, rfl, rfl, rfl, hF, hI2, RT_tell hT 0, hP, hS⟩
  rw [br_t1 hw, br_t1 hw]
  obtain ⟨t, -, ht3, rfl⟩ := hs
  obtain ⟨w, -, hw2, rfl⟩ := hw
  have ht : t < 4 := by omega
  obtain ⟨hb1, hb2, ⟨n, hn40, hs1, hs2⟩, hnum⟩ := hS t ht
  rw [nI_clamp (by omega)]
  by_cases hb : vT_sheets_bits t = 0
  · rw [bd_t (isMissing_0 hb), br_f1 (by decide), bd_t (tell5 _), bd_t (whyNone_0 ht (hb1 ▸ hb)), br_f1 (by decide), bd_t (finds5 _)]
    exact ⟨_, _, rfl, rfl, rfl, hF, hI2, RT_tell hT 5, hP, hS⟩
  obtain ⟨tk', ta', te', tp', ts', tt', hSt, hCt⟩ := start_e hn hC vT_trial_basins vT_trial_spring vT_trial_hour vT_trial_z cT_trial_kind cT_trial_above cT_trial_edge cT_trial_pool cT_trial_store cT_trial_spot
  rw [bd_t (isMissing_1 hb), br_t1 rfl, bd_t (whyNone_1 ht (fun h => hb (hb1.trans h))), br_t1 (show (-1 : Int32) < 0 by decide), bd_t hSt, hs1]
  dsimp only
  obtain ⟨r5, r6, r7, r8, r9, r10, r11, r12, r13, r14, hL⟩ := look7_e hG hCt hn40 (cT_sheets_numbers t) vT_search_sets vT_search_least vT_search_inAll vT_search_inAny vT_flow_kept vT_flow_leaked vT_flow_ranOff vT_flow_uneven cT_flow_width cT_flow_goesOn cT_flow_comes cT_flow_keeps cT_flow_holds
  obtain ⟨vl', vk', vo', d', e', c, g, h, o, h8, hd⟩ := find8_e hG hM ht hn40 (cT_sheets_numbers t) hs2 hnum vM_leaked vM_keptAll vM_offAll vM_fitting vM_firstSet vM_inAll vM_inAny cM_e cM_came cM_got cM_held cM_off
  have hF2 : RF cT_present_kind cT_present_above cT_present_edge cT_present_pool cT_present_store cT_present_spot (nI f.n) (nI f.sg) (nI f.hr) vT_present_z d' := ⟨f, hV, hC, MF_cong hn hM hd⟩
  obtain ⟨l1, l2, l3⟩ := chS_l (E := expl f n (cT_sheets_numbers t)) (l := 0) (m := -1) (a := nI (2 ^ f.n) - 1) (2 ^ f.n)
  have hle := chS_le (E := expl f n (cT_sheets_numbers t)) (l := -1) (a := nI (2 ^ f.n) - 1) (2 ^ f.n)
  have hpw := pow_le hn
  rw [bd_t hL, bd_t h8]
  dsimp only
  rw [l1, l2]
  by_cases h0 : (chS (expl f n (cT_sheets_numbers t)) (-1) (nI (2 ^ f.n) - 1) (2 ^ f.n)).1 = 0
  · rw [br_t1 (by rw [h0]; rfl), br_t1 (by rw [h0]; rfl), bd_t (tell3 _), bd_t (finds3 _)]
    exact ⟨_, _, rfl, rfl, rfl, hF2, hI2, RT_tell hT 3, hP, hS⟩
  · rw [br_f1 (nI_ne 0 0 h0), br_f1 (nI_ne 0 0 h0), l3 (by rw [l1]; exact h0)]
    by_cases w0 : w = 0
    · rw [br_t1 (show nI w = 0 by rw [w0]; rfl), br_t1 (show nI w = 0 by rw [w0]; rfl)]
      exact ⟨_, _, rfl, rfl, rfl, hF2, hI2, hT, hP, hS⟩
    · rw [br_f1 (nI_ne 0 0 w0), br_f1 (nI_ne 0 0 w0)]
      by_cases w1 : w = 1
      · rw [br_t1 (show nI w = 1 by rw [w1]; rfl), br_t1 (show nI w = 1 by rw [w1]; rfl)]
        exact ⟨_, _, rfl, rfl, rfl, hF2, hI2, hT, hP, hS⟩
      · rw [br_f1 (nI_ne 1 1 w1), br_f1 (nI_ne 1 1 w1)]
        exact ⟨_, _, rfl, rfl, rfl, hF2, hI2, hT, hP, hS⟩
theorem has_e {z : Nat} (hz : z ≤ 40) (x y : Int32) : f_X5_has x y (nI z) = some (kI (∃ a m, x = nI a ∧ y = nI m ∧ a + m ≤ z)) := by
  unfold f_X5_has
  have nneg : ∀ {w : Int32}, w < 0 → ∀ {j : Nat}, j ≤ 40 → w = nI j → False := fun h j hj e => by rw [e] at h; exact nI_pos (by omega) h
  by_cases h1 : x < 0
  · rw [br_t1 h1, kI_f]
    rintro ⟨a, m, e1, e2, e3⟩
    exact nneg h1 (by omega) e1
  rw [br_f1 h1]
  by_cases h2 : y < 0
  · rw [br_t1 h2, kI_f]
    rintro ⟨a, m, e1, e2, e3⟩
    exact nneg h2 (by omega) e2
  rw [br_f1 h2]
  obtain ⟨a, ha, rfl⟩ := nI_of h1
  obtain ⟨m, hm, rfl⟩ := nI_of h2
  by_cases h3 : nI z < nI a
  · rw [br_t1 h3, kI_f]
    rintro ⟨a', m', e1, e2, e3⟩
    have := (nI_eq ha (by omega)).mp e1
    have := (nI_ltI (by omega) ha).mp h3
    omega
  rw [br_f1 h3]
  have h3' : a ≤ z := (Nat.lt_or_ge z a).elim (fun q => absurd (nI_lt q ha) h3) id
  rw [pk_sub h3']
  by_cases h4 : nI (z - a) < nI m
  · rw [br_t1 h4, kI_f]
    rintro ⟨a', m', e1, e2, e3⟩
    have := (nI_eq ha (by omega)).mp e1
    have := (nI_eq hm (by omega)).mp e2
    have := (nI_ltI (by omega) hm).mp h4
    omega
  · rw [br_f1 h4, kI_t]
    have h4' : m ≤ z - a := (Nat.lt_or_ge (z - a) m).elim (fun q => absurd (nI_lt q hm) h4) id
    exact ⟨a, m, rfl, rfl, by omega⟩
theorem lsum {a m z : Nat} (ha : a < 2 ^ 31) (hm : m < 2 ^ 31) (hz : z < 2 ^ 31) : (0 < lg_cmp ((nI a).toInt64 + (nI m).toInt64) (nI z).toInt64 ↔ z < a + m) ∧ (lg_cmp ((nI a).toInt64 + (nI m).toInt64) (nI z).toInt64 ≤ 0 ↔ a + m ≤ z) := by
  have e : 0 < lg_cmp ((nI a).toInt64 + (nI m).toInt64) (nI z).toInt64 ↔ z < a + m := by
    rw [lgc_gt, nI_l ha, nI_l hm, nI_l hz, lN_add, pk_lT (by omega), pk_lT (by omega)]
    omega
  refine ⟨e, ?_⟩
  rw [← Int32.not_lt, e]
  omega
theorem copy8_e {s t a b m : Nat} (hs : s < 4) (ht : t < 4) (ha : a + m ≤ 40) (hb : b + m ≤ 40) (bo so fo ps nu : Nat → Int32) : ∃ ps' nu', f_X8_copy_L123 (nI s) (nI a) (nI t) (nI b) (nI m) bo so FU ((0 : Int32), fo, ps, nu) = some (nI m, fo, ps', nu') ∧ (∀ k, k < m → nu' (40 * t + b + k) = nu (40 * s + a + k)) ∧ ∀ j, (j < 40 * t + b ∨ 40 * t + b + m ≤ j) → nu' j = nu j := by
  unfold f_X8_copy_L123
  refine lp_go2 _ (fun i (q : Int32 × (Nat → Int32) × (Nat → Int32) × (Nat → Int32)) => q.1 = nI i ∧ q.2.1 = fo ∧ q.2.2.2 = nu ∧ ∀ k, k < i → q.2.2.1 k = nu (40 * s + a + k)) m (fun o => ∃ (ps' nu' : Nat → Int32), o = some (nI m, fo, ps', nu') ∧ (∀ k, k < m → nu' (40 * t + b + k) = nu (40 * s + a + k)) ∧ ∀ j, (j < 40 * t + b ∨ 40 * t + b + m ≤ j) → nu' j = nu j) ?_ _ ⟨rfl, rfl, rfl, fun k hk => absurd hk (by omega)⟩ (FU_gt (by omega))
  rintro i ⟨y, f1, p1, n1⟩ hi ⟨a1, a2, a3, a4⟩ rc
  dsimp only at a1 a2 a3 a4 ⊢
  subst a1 a2 a3
  unfold f_X8_copy_L123_b
  by_cases hx : i = m
  · left
    subst hx
    rw [br_t1 (nI_le (Nat.le_refl _) (by omega))]
    unfold f_X8_copy_L160
    refine lp_go2 _ (fun j (q : Int32 × (Nat → Int32) × (Nat → Int32) × (Nat → Int32)) => q.1 = nI j ∧ q.2.1 = f1 ∧ q.2.2.1 = p1 ∧ (∀ k, k < j → q.2.2.2 (40 * t + b + k) = n1 (40 * s + a + k)) ∧ ∀ k, (k < 40 * t + b ∨ 40 * t + b + j ≤ k) → q.2.2.2 k = n1 k) i (fun o => ∃ (ps' nu' : Nat → Int32), o = some (nI i, f1, ps', nu') ∧ (∀ k, k < i → nu' (40 * t + b + k) = n1 (40 * s + a + k)) ∧ ∀ j, (j < 40 * t + b ∨ 40 * t + b + i ≤ j) → nu' j = n1 j) ?_ _ ⟨rfl, rfl, rfl, fun k hk => absurd hk (by omega), fun _ _ => rfl⟩ (FU_gt (by omega))
    rintro j ⟨y, f2, p2, n2⟩ hj ⟨b1, b2, b3, b4, b5⟩ rd
    dsimp only at b1 b2 b3 b4 b5 ⊢
    subst b1 b2 b3
    unfold f_X8_copy_L160_b
    by_cases hjx : j = i
    · left
      subst hjx
      rw [br_t1 (nI_le (Nat.le_refl _) (by omega))]
      exact ⟨_, _, rfl, b4, b5⟩
    · right
      refine ⟨by omega, ?_⟩
      rw [br_f1 (nI_ge (by omega) (by omega)), ix40, nI_add, gd_t (vp_in_nI (by omega) (by decide)), gd_t (vp_in_nI (by omega) (by decide)), nI_clamp (show j < 2 ^ 31 by omega), nI_clamp (show 40 * t + b + j < 2 ^ 31 by omega), a4 j (by omega)]
      refine ⟨_, ?_, rfl⟩
      refine ⟨nI_1 j, rfl, rfl, fun k hk => ?_, fun k hk => ?_⟩
      · dsimp only
        by_cases e : k = j
        · rw [e, pk_us]
        · rw [pk_un (by omega)]; exact b4 k (by omega)
      · dsimp only
        rw [pk_un (by omega)]
        exact b5 k (by omega)
  · right
    refine ⟨by omega, ?_⟩
    rw [br_f1 (nI_ge (by omega) (by omega)), ix40, nI_add, gd_t (vp_in_nI (by omega) (by decide)), gd_t (vp_in_nI (by omega) (by decide)), nI_clamp (show i < 2 ^ 31 by omega), nI_clamp (show 40 * s + a + i < 2 ^ 31 by omega)]
    refine ⟨_, ?_, rfl⟩
    refine ⟨nI_1 i, rfl, rfl, fun k hk => ?_⟩
    dsimp only
    by_cases e : k = i
    · rw [e, pk_us]
    · rw [pk_un e]; exact a4 k (by omega)
theorem RS_copy {bits size : Nat → Int32} {numbers : Nat → Nat → Int32} {bitsOf sizeOf number : Nat → Int32} (h : RS bits size numbers bitsOf sizeOf number) {s t a b m : Nat} (hs : s < 4) (ht : t < 4) (ha : a + m ≤ 40) (hb : b + m ≤ 40) {nu' : Nat → Int32} (h1 : ∀ k, k < m → nu' (40 * t + b + k) = number (40 * s + a + k)) (h2 : ∀ j, (j < 40 * t + b ∨ 40 * t + b + m ≤ j) → nu' j = number j) :
    RS bits size (va_up numbers t (va_cpy (numbers s) (numbers t) a b m)) bitsOf sizeOf nu' := by
  intro u hu
  obtain ⟨g1, g2, g3, g4⟩ := h u hu
  refine ⟨g1, g2, g3, fun k hk => ?_⟩
  by_cases e : u = t
  · subst e
    rw [va_up_s]
    by_cases q : b ≤ k ∧ k < b + m
    · rw [pk_cpy_in q.1 q.2, (h s hs).2.2.2 (a + (k - b)) (by omega)]
      have := h1 (k - b) (by omega)
      rw [show 40 * u + b + (k - b) = 40 * u + k by omega] at this
      rw [this]
      exact congrArg number (by omega)
    · rw [pk_cpy_out (by omega), g4 k hk, h2 _ (by omega)]
  · rw [va_up_n e, g4 k hk, h2 _ (by omega)]
theorem L_copy (x1 x2 x3 x4 x5 : Int32) (cT_present_kind : Nat → Int32) (cT_present_above : Nat → Int32) (cT_present_edge : Nat → Int32) (cT_present_pool : Nat → Int32) (cT_present_store : Nat → Int32) (cT_present_spot : Nat → Int32) (vT_present_basins : Int32) (vT_present_spring : Int32) (vT_present_hour : Int32) (vT_present_z : Int32) (vT_pictured : Int32) (cT_picture_kind : Nat → Int32) (cT_picture_above : Nat → Int32) (cT_picture_edge : Nat → Int32) (cT_picture_pool : Nat → Int32) (cT_picture_store : Nat → Int32) (cT_picture_spot : Nat → Int32) (vT_picture_basins : Int32) (vT_picture_spring : Int32) (vT_picture_hour : Int32) (vT_picture_z : Int32) (cT_told : Nat → Int32) (cT_tape_bytes : Nat → Int32) (vT_tape_size : Int32) (vT_sheets_bits : Nat → Int32) (vT_sheets_size : Nat → Int32) (cT_sheets_numbers : Nat → Nat → Int32) (cM_d : Nat → Int32) (vM_isKept : Int32) (cM_kept : Nat → Int32) (cM_found : Nat → Int32) (cM_tape : Nat → Int32) (vM_taped : Int32) (cM_bitsOf : Nat → Int32) (cM_sizeOf : Nat → Int32) (cM_number : Nat → Int32) (cM_passing : Nat → Int32) (hI : Inv cT_present_kind cT_present_above cT_present_edge cT_present_pool cT_present_store cT_present_spot vT_present_basins vT_present_spring vT_present_hour vT_present_z vT_pictured cT_picture_kind cT_picture_above cT_picture_edge cT_picture_pool cT_picture_store cT_picture_spot vT_picture_basins vT_picture_spring vT_picture_hour vT_picture_z cT_told cT_tape_bytes vT_tape_size vT_sheets_bits vT_sheets_size cT_sheets_numbers cM_d vM_isKept cM_kept cM_found cM_tape vM_taped cM_bitsOf cM_sizeOf cM_number) : ∃ (u : Int32 × (Nat → Nat → Int32) × (Nat → Int32)) (v : Int32 × (Nat → Int32) × (Nat → Int32) × (Nat → Int32)), f_X7_copy x1 x2 x3 x4 x5 vT_pictured vT_sheets_bits vT_sheets_size cT_sheets_numbers cT_told = some u ∧ f_X8_copy x1 x2 x3 x4 x5 cM_found cM_bitsOf cM_sizeOf cM_passing cM_number = some v ∧ u.1 = v.1 ∧ Inv cT_present_kind cT_present_above cT_present_edge cT_present_pool cT_present_store cT_present_spot vT_present_basins vT_present_spring vT_present_hour vT_present_z vT_pictured cT_picture_kind cT_picture_above cT_picture_edge cT_picture_pool cT_picture_store cT_picture_spot vT_picture_basins vT_picture_spring vT_picture_hour vT_picture_z u.2.2 cT_tape_bytes vT_tape_size vT_sheets_bits vT_sheets_size u.2.1 cM_d vM_isKept cM_kept v.2.1 cM_tape vM_taped cM_bitsOf cM_sizeOf v.2.2.2 := by
  obtain ⟨hF, hI2, hT, hP, hS⟩ := hI
  unfold f_X7_copy f_X8_copy
  rw [bd_t (isSheet8 x1), br_kI]
  by_cases hs1 : rg 0 3 x1
  rotate_left
  · rw [br_f1 (fun h => hs1 (k_sheet_iff.mp h)), br_f1 hs1, bd_t (tell0 _), br_id, bd_t (finds0 _)]
    exact ⟨_, _, rfl, rfl, rfl, hF, hI2, RT_tell hT 0, hP, hS⟩
  rw [br_t1 (k_sheet_iff.mpr hs1), br_t1 hs1, bd_t (isSheet8 x3), br_kI]
  by_cases hs3 : rg 0 3 x3
  rotate_left
  · rw [br_f1 (fun h => hs3 (k_sheet_iff.mp h)), br_f1 hs3, bd_t (tell0 _), bd_t (finds0 _)]
    exact ⟨_, _, rfl, rfl, rfl, hF, hI2, RT_tell hT 0, hP, hS⟩
  rw [br_t1 (k_sheet_iff.mpr hs3), br_t1 hs3]
  obtain ⟨s, -, hs3', rfl⟩ := hs1
  obtain ⟨t, -, ht3', rfl⟩ := hs3
  have hs : s < 4 := by omega
  have ht : t < 4 := by omega
  have vs : vp_in (nI s) 4 := vp_in_nI hs (by decide)
  have vt : vp_in (nI t) 4 := vp_in_nI ht (by decide)
  obtain ⟨hb1, hb2, ⟨n, hn40, hz1, hz2⟩, hnum⟩ := hS s hs
  obtain ⟨gb1, gb2, ⟨w, hw40, gz1, gz2⟩, gnum⟩ := hS t ht
  rw [nI_clamp (show s < 2 ^ 31 by omega), nI_clamp (show t < 2 ^ 31 by omega), gd_t vs, gd_t vt, gd_t vs, gd_t vt, gd_t vs, gd_t vt, ← hb1, ← gb1]
  by_cases hb : vT_sheets_bits s = 0
  · rw [bd_t (isMissing_0 hb), br_f1 (by decide), br_t1 hb, bd_t (tell5 _), bd_t (finds5 _)]
    exact ⟨_, _, rfl, rfl, rfl, hF, hI2, RT_tell hT 5, hP, hS⟩
  rw [bd_t (isMissing_1 hb), br_t1 rfl, br_f1 hb]
  by_cases gb : vT_sheets_bits t = 0
  · rw [bd_t (isMissing_0 gb), br_f1 (by decide), br_t1 gb, bd_t (tell5 _), bd_t (finds5 _)]
    exact ⟨_, _, rfl, rfl, rfl, hF, hI2, RT_tell hT 5, hP, hS⟩
  rw [bd_t (isMissing_1 gb), br_t1 rfl, br_f1 gb]
  by_cases he : vT_sheets_bits s = vT_sheets_bits t
  rotate_left
  · rw [br_f1 he, br_f1 he, bd_t (tell2 _), bd_t (finds2 _)]
    exact ⟨_, _, rfl, rfl, rfl, hF, hI2, RT_tell hT 2, hP, hS⟩
  rw [br_t1 he, br_t1 he, hz1, gz1, bd_t (has_e hn40 x2 x5), bd_t (has_e hw40 x4 x5), br_kI, br_kI, bd_t (finds0 _), hz2, gz2, bd_t (tell0 _)]
  by_cases hA : (∃ a m, x2 = nI a ∧ x5 = nI m ∧ a + m ≤ n) ∧ ∃ a m, x4 = nI a ∧ x5 = nI m ∧ a + m ≤ w
  · obtain ⟨⟨a, m, rfl, rfl, ham⟩, b, m', rfl, em, hbm⟩ := hA
    have hmm : m = m' := (nI_eq (by omega) (by omega)).mp em
    subst hmm
    have A1 : ∃ a' m', nI a = nI a' ∧ nI m = nI m' ∧ a' + m' ≤ n := ⟨a, m, rfl, rfl, ham⟩
    have B1 : ∃ a' m', nI b = nI a' ∧ nI m = nI m' ∧ a' + m' ≤ w := ⟨b, m, rfl, rfl, hbm⟩
    have na : ¬ nI a < 0 := nI_pos (by omega)
    have nb : ¬ nI b < 0 := nI_pos (by omega)
    have nm9 : ¬ nI m < 0 := nI_pos (by omega)
    obtain ⟨l1, l2⟩ := lsum (a := a) (m := m) (z := n) (by omega) (by omega) (by omega)
    obtain ⟨k1, k2⟩ := lsum (a := b) (m := m) (z := w) (by omega) (by omega) (by omega)
    obtain ⟨ps', nu', hc, hc1, hc2⟩ := copy8_e hs ht (a := a) (b := b) (m := m) (by omega) (by omega) cM_bitsOf cM_sizeOf cM_found cM_passing cM_number
    rw [br_t1 A1, br_t1 B1, gd_t na, gd_t nb, gd_t nm9, nI_clamp (show a < 2 ^ 31 by omega), nI_clamp (show b < 2 ^ 31 by omega), nI_clamp (show m < 2 ^ 31 by omega), gd_t (show a + m ≤ 40 by omega), gd_t (show b + m ≤ 40 by omega), br_f1 na, br_f1 nb, br_f1 nm9, br_f1 (fun z => absurd (l1.mp z) (by omega)), br_t1 (k2.mpr hbm), hc]
    exact ⟨_, _, rfl, rfl, rfl, hF, hI2, hT, hP, RS_copy hS hs ht (by omega) (by omega) hc1 hc2⟩
  · have e7 : ∀ {A : Type} (X Z : Option A), br (∃ a m, x2 = nI a ∧ x5 = nI m ∧ a + m ≤ n) (br (∃ a m, x4 = nI a ∧ x5 = nI m ∧ a + m ≤ w) X Z) Z = Z := by
      intro A X Z
      by_cases q1 : ∃ a m, x2 = nI a ∧ x5 = nI m ∧ a + m ≤ n
      · rw [br_t1 q1, br_f1 (fun q2 => hA ⟨q1, q2⟩)]
      · rw [br_f1 q1]
    have e8 : ∀ {A : Type} (X Z : Option A), br (x2 < 0) Z (br (x4 < 0) Z (br (x5 < 0) Z (br (0 < lg_cmp (x2.toInt64 + x5.toInt64) (nI n).toInt64) Z (br (lg_cmp (x4.toInt64 + x5.toInt64) (nI w).toInt64 ≤ 0) X Z)))) = Z := by
      intro A X Z
      by_cases q1 : x2 < 0
      · rw [br_t1 q1]
      rw [br_f1 q1]
      by_cases q2 : x4 < 0
      · rw [br_t1 q2]
      rw [br_f1 q2]
      by_cases q3 : x5 < 0
      · rw [br_t1 q3]
      rw [br_f1 q3]
      obtain ⟨a, ha, rfl⟩ := nI_of q1
      obtain ⟨b, hb, rfl⟩ := nI_of q2
      obtain ⟨m, hm, rfl⟩ := nI_of q3
      obtain ⟨l1, l2⟩ := lsum (a := a) (m := m) (z := n) ha hm (by omega)
      obtain ⟨k1, k2⟩ := lsum (a := b) (m := m) (z := w) hb hm (by omega)
      by_cases q4 : n < a + m
      · rw [br_t1 (l1.mpr q4)]
      rw [br_f1 (fun z => q4 (l1.mp z))]
      refine br_f1 (fun z => hA ⟨⟨a, m, rfl, rfl, by omega⟩, b, m, rfl, rfl, k2.mp z⟩)
    rw [e7, e8]
    exact ⟨_, _, rfl, rfl, rfl, hF, hI2, RT_tell hT 0, hP, hS⟩
