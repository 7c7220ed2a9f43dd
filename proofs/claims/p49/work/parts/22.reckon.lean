/-! ===== an hour's flow: the class ===== -/
def CG (f : Fo) (kind above edge pool : Nat → Int32) : Prop := ∀ b, b < f.n → kind b = nI (f.kd b) ∧ above b = abI f.ab b ∧ edge b = nI (f.ed b) ∧ pool b = nI (f.po b)
theorem abI_0 (a : Nat → Nat) : abI a 0 = -1 := if_pos rfl
theorem abI_s (a : Nat → Nat) {b : Nat} (h : b ≠ 0) : abI a b = nI (a b) := if_neg h
theorem measure_e {f : Fo} (hV : VG f) {kind above edge pool : Nat → Int32} (hC : CG f kind above edge pool) (W : Nat → Int32) :
    ∃ w : Nat → Int32, f_X1_measure (nI f.n) W above edge = some w ∧ ∀ b, b < f.n → w b = nI (f.wd b) := by
  have hn := hV.1
  unfold f_X1_measure f_X1_measure_L2
  refine lp_go2 _ (fun i (s : Int32 × (Nat → Int32)) => s.1 = nI i ∧ ∀ b, b < i → s.2 b = nI (f.wdP i b)) f.n (fun o => ∃ w : Nat → Int32, o = some w ∧ ∀ b, b < f.n → w b = nI (f.wd b)) ?_ ((0 : Int32), W) ⟨rfl, fun b hb => absurd hb (by omega)⟩ (FU_gt (by omega))
  rintro i ⟨y, w⟩ hi ⟨h1, h2⟩ rc
  dsimp only at h1 h2
  subst h1
  show (∃ w', f_X1_measure_L2_b (nI f.n) above edge rc (nI i) w = some w' ∧ _) ∨ (i < f.n ∧ ∃ s', _ ∧ f_X1_measure_L2_b (nI f.n) above edge rc (nI i) w = rc s')
  unfold f_X1_measure_L2_b
  by_cases h : i = f.n
  · left
    subst h
    exact ⟨w, br_t1 (nI_le (Nat.le_refl _) (by omega)), h2⟩
  · right
    have hi' : i < f.n := by omega
    refine ⟨hi', ?_⟩
    obtain ⟨-, hab, hed, -⟩ := hC i hi'
    obtain ⟨-, -, he9, -, habl⟩ := hV.2.1 i hi'
    rw [br_f1 (nI_ge hi' (by omega)), gd_t (vp_in_nI (by omega) (by decide)), gd_t (vp_in_nI (by omega) (by decide)), nm_q, nI_clamp (by omega), hab]
    have z : f.wdP i i = 0 := sumN_zero.mpr (fun o ho => if_neg (fun c => by have := (hV.2.1 o (by omega)).2.2.2.2 c.1; omega))
    by_cases h0 : i = 0
    · subst h0
      rw [abI_0, br_t1 (by decide)]
      refine ⟨_, ⟨nI_1 0, fun b hb => ?_⟩, rfl⟩
      have e : b = 0 := by omega
      subst e
      have e9 : f.wdP (0 + 1) 0 = 0 := by
        show 0 + (if 1 ≤ 0 ∧ f.ab 0 = 0 then f.ed 0 else 0) = 0
        rw [if_neg (by omega)]
      rw [e9]
      exact (pk_us : upd w 0 0 0 = 0)
    · have ha := habl (by omega)
      rw [abI_s _ h0, br_f1 (nI_pos (by omega)), br_f1 (nI_ge ha (by omega)), gd_t (vp_in_nI (by omega) (by decide)), gd_t (vp_in_nI (by omega) (by decide)), gd_t (vp_in_nI (by omega) (by decide)), nI_clamp (by omega)]
      refine ⟨_, ⟨nI_1 i, fun b hb => ?_⟩, rfl⟩
      show upd (upd w i 0) (f.ab i) (upd w i 0 (f.ab i) + edge i) b = nI (f.wdP (i + 1) b)
      have e1 : f.wdP (i + 1) b = f.wdP i b + (if 1 ≤ i ∧ f.ab i = b then f.ed i else 0) := rfl
      rw [e1]
      by_cases e : b = f.ab i
      · rw [e, pk_us, pk_un (by omega), h2 _ ha, hed, nI_add, if_pos ⟨by omega, rfl⟩]
      · rw [pk_un e, if_neg (fun c => e c.2.symm), Nat.add_zero]
        by_cases e2 : b = i
        · rw [e2, pk_us, z]; rfl
        · rw [pk_un e2, h2 b (by omega)]
theorem coming_e {f : Fo} (hV : VG f) {kind above edge pool : Nat → Int32} (hC : CG f kind above edge pool) {i : Nat} (hi : i < f.n) {w g : Nat → Int32} (hw : ∀ b, b < f.n → w b = nI (f.wd b)) (hg : ∀ b, b < i → g b = nI (f.go b)) (ro un : Int32) :
    f_X1_comingTo (nI i) (nI f.sg) above ro un w g edge = some (nI (f.cm i), ro - nI (f.cd i), un - nI (f.cd i)) := by
  have hn := hV.1
  unfold f_X1_comingTo
  obtain ⟨-, hab, hed, -⟩ := hC i hi
  obtain ⟨-, he1, he9, -, habl⟩ := hV.2.1 i hi
  rw [gd_t (vp_in_nI (by omega) (by decide)), nm_q, nI_clamp (by omega), hab]
  by_cases h0 : i = 0
  · subst h0
    rw [abI_0, br_t1 (by decide), cm_0, show f.cd 0 = 0 from rfl, show nI 0 = 0 from rfl, Int32.sub_zero, Int32.sub_zero]
  · have ha := habl (by omega)
    have h5 := wd_ge (f := f) (b := i) (by omega) hi
    have h6 := wd_le hV f.n (f.ab i) (Nat.le_refl _)
    have h7 := go_5 hV (b := f.ab i) (by omega)
    have h8 : f.wd (f.ab i) ≤ 90 := h6
    have h9 : f.go (f.ab i) * f.ed i ≤ 99999 * 9 := Nat.mul_le_mul h7 he9
    rw [abI_s _ h0, br_f1 (nI_pos (by omega)), br_t1 (nI_lt ha (by omega)), gd_t (vp_in_nI (by omega) (by decide)), nm_q, nI_clamp (by omega), hw _ (by omega), br_t1 (show (0 : Int32) < nI (f.wd (f.ab i)) from nI_lt (a := 0) (by omega) (by omega)), gd_t (vp_in_nI (by omega) (by decide)), gd_t (vp_in_nI (by omega) (by decide)), gd_t (nI_ne0 (by omega) (by omega)), nm_q, hg _ ha, hed, pk_mul, pk_div (by omega) (by omega) (by omega), ← cm_s (by omega) ha, show f.cd i = f.cm i from if_neg h0]
theorem divide_e {f : Fo} (hV : VG f) {kind above edge pool : Nat → Int32} (hC : CG f kind above edge pool) {i : Nat} (hi : i < f.n) {w c : Nat → Int32} (hw : w i = nI (f.wd i)) (hc : c i = nI (f.cm i)) (vk vl vr vu : Int32) (k h g : Nat → Int32) :
    f_X1_divide (nI i) kind vk vl vr vu c k pool h g w = some (vk + nI (f.kp i), vl + nI (f.lk i), vr + nI (f.go i), vu + nI (if f.wd i = 0 then 0 else f.go i), upd k i (nI (f.kp i)), upd h i (nI (f.hd i)), upd g i (nI (f.go i))) := by
  have hn := hV.1
  have h5 := cm_5 hV hi
  have h6 : f.wd i ≤ 90 := wd_le hV f.n i (Nat.le_refl _)
  unfold f_X1_divide
  obtain ⟨hkd, -, -, hpo⟩ := hC i hi
  obtain ⟨hk6, -, -, hp, -⟩ := hV.2.1 i hi
  have e1 : f.lk i ≤ f.cm i := kLeak_le _ _
  have e2 : f.kp i ≤ f.cm i - f.lk i := kKeep_le _ _
  have e3 : f.hd i ≤ f.cm i - f.lk i - f.kp i := kHold_le _ _ _
  have v : vp_in (nI i) 10 := vp_in_nI (by omega) (by decide)
  rw [gd_t v, nm_q, gd_t v, nI_clamp (by omega), hkd, hc, bd_t (leaks7 hk6 (by omega)), gd_t v, nm_q, show nI (kLeak (f.kd i) (f.cm i)) = nI (f.lk i) from rfl, pk_sub e1, bd_t (keeps7 hk6 (by omega)), show nI (kKeep (f.kd i) (f.cm i - f.lk i)) = nI (f.kp i) from rfl, gd_t v, gd_t v, nm_q, pk_us, pk_sub e2, hpo, gd_t v, bd_t (holds7 hk6 (by omega) hp), show nI (kHold (f.kd i) (f.cm i - f.lk i - f.kp i) (f.po i)) = nI (f.hd i) from rfl, gd_t v, gd_t v, nm_q, pk_us, pk_sub e3, gd_t v, gd_t v, gd_t v, hw, show nI (f.cm i - f.lk i - f.kp i - f.hd i) = nI (f.go i) from rfl]
  by_cases h0 : f.wd i = 0
  · rw [br_t1 (by rw [h0]; decide), if_pos h0, show nI 0 = 0 from rfl, Int32.add_zero]
  · rw [br_f1 (nI_nle (by omega) (by omega)), if_neg h0]
theorem reckon_e {f : Fo} (hV : VG f) {kind above edge pool : Nat → Int32} (hC : CG f kind above edge pool) (vk vl vr vu : Int32) (W g c k h : Nat → Int32) :
    ∃ w' g' c' k' h' : Nat → Int32, f_X1_reckon vk vl vr vu (nI f.n) (nI f.sg) W above edge g c kind k pool h = some (nI f.kpS, nI f.lkS, nI f.roS, nI f.unS, w', g', c', k', h') ∧
      ∀ b, b < f.n → c' b = nI (f.cm b) ∧ k' b = nI (f.kp b) ∧ h' b = nI (f.hd b) := by
  have hn := hV.1
  unfold f_X1_reckon
  obtain ⟨w, hm, hw⟩ := measure_e hV hC W
  rw [bd_t hm]
  unfold f_X1_reckon_L27
  refine lp_go2 _ (fun i (s : Int32 × Int32 × Int32 × Int32 × Int32 × (Nat → Int32) × (Nat → Int32) × (Nat → Int32) × (Nat → Int32) × (Nat → Int32)) =>
      s.1 = nI i ∧ s.2.1 = nI (sumN f.kp i) ∧ s.2.2.1 = nI (sumN f.lk i) ∧ s.2.2.2.1 = nI (sumN f.go i) - nI (sumN f.cd i) ∧ s.2.2.2.2.1 = nI (sumN (fun b => if f.wd b = 0 then 0 else f.go b) i) - nI (sumN f.cd i) ∧ s.2.2.2.2.2.1 = w ∧
      ∀ b, b < i → s.2.2.2.2.2.2.1 b = nI (f.go b) ∧ s.2.2.2.2.2.2.2.1 b = nI (f.cm b) ∧ s.2.2.2.2.2.2.2.2.1 b = nI (f.kp b) ∧ s.2.2.2.2.2.2.2.2.2 b = nI (f.hd b)) f.n
    (fun o => ∃ w' g' c' k' h' : Nat → Int32, o = some (nI f.kpS, nI f.lkS, nI f.roS, nI f.unS, w', g', c', k', h') ∧ ∀ b, b < f.n → c' b = nI (f.cm b) ∧ k' b = nI (f.kp b) ∧ h' b = nI (f.hd b))
    ?_ ((0 : Int32), (0 : Int32), (0 : Int32), (0 : Int32), (0 : Int32), w, g, c, k, h) ⟨rfl, rfl, rfl, show (0 : Int32) = nI 0 - nI 0 by decide, show (0 : Int32) = nI 0 - nI 0 by decide, rfl, fun b hb => absurd hb (by omega)⟩ (FU_gt (by omega))
  rintro i ⟨y, vk, vl, vr, vu, w1, g, c, k, h⟩ hi ⟨h1, h2, h3, h4, h5, h6, h7⟩ rc
  dsimp only at h1 h2 h3 h4 h5 h6 h7
  subst h1 h2 h3 h4 h5 h6
  show (∃ w' g' c' k' h' : Nat → Int32, f_X1_reckon_L27_b (nI f.n) (nI f.sg) above edge kind pool rc (nI i) _ _ _ _ w1 g c k h = some _ ∧ _) ∨ (i < f.n ∧ ∃ s', _ ∧ f_X1_reckon_L27_b (nI f.n) (nI f.sg) above edge kind pool rc (nI i) _ _ _ _ w1 g c k h = rc s')
  unfold f_X1_reckon_L27_b
  by_cases hin : i = f.n
  · left
    subst hin
    refine ⟨w1, g, c, k, h, ?_, fun b hb => ⟨(h7 b hb).2.1, (h7 b hb).2.2.1, (h7 b hb).2.2.2⟩⟩
    dsimp only
    rw [br_t1 (nI_le (Nat.le_refl _) (by omega)), go_off hV, go_un hV, pk_sub (by omega), pk_sub (by omega), Nat.add_sub_cancel, Nat.add_sub_cancel]
    rfl
  · right
    have hi' : i < f.n := by omega
    refine ⟨hi', ?_⟩
    rw [br_f1 (nI_ge hi' (by omega)), bd_t (coming_e hV hC hi' hw (fun b hb => (h7 b hb).1) _ _), gd_t (vp_in_nI (by omega) (by decide)), nI_clamp (by omega)]
    dsimp only
    rw [bd_t (divide_e hV hC hi' (hw i hi') pk_us _ _ _ _ _ _ _)]
    refine ⟨_, ⟨nI_1 i, ?_, ?_, ?_, ?_, rfl, fun b hb => ?_⟩, rfl⟩
    · dsimp only; rw [sumN, nI_add]
    · dsimp only; rw [sumN, nI_add]
    · dsimp only; rw [sumN, sumN, ← nI_add, ← nI_add]; grind
    · dsimp only; rw [sumN, sumN, ← nI_add, ← nI_add]; grind
    · dsimp only
      by_cases e : b = i
      · rw [e, pk_us, pk_us, pk_us, pk_us]; exact ⟨rfl, rfl, rfl, rfl⟩
      · rw [pk_un e, pk_un e, pk_un e, pk_un e]; exact h7 b (by omega)
