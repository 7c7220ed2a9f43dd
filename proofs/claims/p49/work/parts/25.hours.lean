/-! ===== an hour goes; many hours ===== -/
theorem MF_eq {f g : Fo} {d : Nat → Int32} (h : MF f d) (hn : g.n = f.n) (hhr : g.hr = f.hr) (hz : g.z = f.z) (hsg : g.sg = f.sg) (hsp : ∀ k, k < 10 → g.sp k = f.sp k)
    (hb : ∀ b, b < f.n → g.kd b = f.kd b ∧ (b ≠ 0 → g.ab b = f.ab b) ∧ g.ed b = f.ed b ∧ g.po b = f.po b ∧ g.st b = f.st b) : MF g d := by
  obtain ⟨h0, h1, h2, h3, h4, h5⟩ := h
  refine ⟨by rw [hn]; exact h0, by rw [hhr]; exact h1, by rw [hz]; exact h2, by rw [hsg]; exact h3, fun b hbn => ?_, fun k hk => by rw [hsp k hk]; exact h5 k hk⟩
  rw [hn] at hbn
  obtain ⟨a1, a2, a3, a4, a5⟩ := h4 b hbn
  obtain ⟨e1, e2, e3, e4, e5⟩ := hb b hbn
  rw [e1, e3, e4, e5]
  refine ⟨a1, ?_, a3, a4, a5⟩
  rw [a2]
  unfold abI
  by_cases h0 : b = 0
  · rw [if_pos h0, if_pos h0]
  · rw [if_neg h0, if_neg h0, e2 h0]
def Fo.nxP (f : Fo) (i : Nat) : Fo := (f.n, f.kd, f.ab, f.ed, fun b => if b < i then f.po b + f.hd b else f.po b, fun b => if b < i then f.st b + nI (f.kp b) else f.st b, f.sp, f.sg, f.hr, f.z)
def Fo.nx (f : Fo) : Fo := (f.n, f.kd, f.ab, f.ed, fun b => f.po b + f.hd b, fun b => f.st b + nI (f.kp b), f.sp, f.sg, f.hr + 1, f.z)
def Fo.it (f : Fo) : Nat → Fo
  | 0 => f
  | k + 1 => (Fo.it f k).nx
theorem it_same (f : Fo) : ∀ k, (f.it k).n = f.n ∧ (f.it k).kd = f.kd ∧ (f.it k).ab = f.ab ∧ (f.it k).ed = f.ed ∧ (f.it k).sp = f.sp ∧ (f.it k).sg = f.sg ∧ (f.it k).hr = f.hr + k ∧ (f.it k).z = f.z
  | 0 => ⟨rfl, rfl, rfl, rfl, rfl, rfl, rfl, rfl⟩
  | k + 1 => by
    obtain ⟨h1, h2, h3, h4, h5, h6, h7, h8⟩ := it_same f k
    exact ⟨h1, h2, h3, h4, h5, h6, (congrArg (· + 1) h7), h8⟩
theorem VG_nx {f : Fo} (hV : VG f) : VG f.nx := by
  refine ⟨hV.1, fun b hb => ?_, hV.2.2⟩
  obtain ⟨h1, h2, h3, h4, h5⟩ := hV.2.1 b hb
  exact ⟨h1, h2, h3, kHold_30 _ _ h4, h5⟩
theorem VG_it {f : Fo} (hV : VG f) : ∀ k, VG (f.it k)
  | 0 => hV
  | k + 1 => VG_nx (VG_it hV k)
def Fo.kpT (f : Fo) (k : Nat) : Nat := sumN (fun j => (f.it j).kpS) k
def Fo.lkT (f : Fo) (k : Nat) : Nat := sumN (fun j => (f.it j).lkS) k
def Fo.roT (f : Fo) (k : Nat) : Nat := sumN (fun j => (f.it j).roS) k
/-- what one gets in k hours -/
def Fo.gt (f : Fo) (k b : Nat) : Nat := sumN (fun j => (f.it j).kp b) k
theorem it_st (f : Fo) (b : Nat) : ∀ k, (f.it k).st b = f.st b + nI (f.gt k b)
  | 0 => (Int32.add_zero _).symm
  | k + 1 => by
    show (f.it k).st b + nI ((f.it k).kp b) = _
    rw [it_st f b k]
    show _ = f.st b + nI (f.gt k b + (f.it k).kp b)
    rw [← nI_add, Int32.add_assoc]
theorem gt_le {f : Fo} (hV : VG f) (k : Nat) {b : Nat} (hb : b < f.n) : f.gt k b ≤ k * 99999 := by
  refine sumN_bd (fun j _ => kp_5 (VG_it hV j) ?_)
  rw [(it_same f j).1]
  exact hb
theorem kpS_le {f : Fo} (hV : VG f) : f.kpS ≤ 999990 := by
  have h : f.kpS ≤ f.n * 99999 := sumN_bd (fun b hb => kp_5 hV hb)
  have := hV.1
  have h2 : f.n * 99999 ≤ 10 * 99999 := Nat.mul_le_mul_right _ this
  omega
theorem kpT_le {f : Fo} (hV : VG f) (k : Nat) : f.kpT k ≤ k * 999990 := sumN_bd (fun j _ => kpS_le (VG_it hV j))
theorem take_e {f : Fo} (hn : f.n ≤ 10) {keeps holds : Nat → Int32} (hk : ∀ b, b < f.n → keeps b = nI (f.kp b)) (hh : ∀ b, b < f.n → holds b = nI (f.hd b)) {store pool : Nat → Int32} (hst : ∀ b, b < f.n → store b = f.st b) (hpo : ∀ b, b < f.n → pool b = nI (f.po b)) (hr : Nat) :
    ∃ s p : Nat → Int32, f_X2_take (nI f.n) (nI hr) store keeps pool holds = some (nI (hr + 1), s, p) ∧ ∀ b, b < f.n → s b = f.nx.st b ∧ p b = nI (f.nx.po b) := by
  unfold f_X2_take f_X2_take_L2
  refine lp_go2 _ (fun i (s : Int32 × Int32 × (Nat → Int32) × (Nat → Int32)) => s.1 = nI i ∧ s.2.1 = nI hr ∧ ∀ b, b < f.n → s.2.2.1 b = (f.nxP i).st b ∧ s.2.2.2 b = nI ((f.nxP i).po b)) f.n
    (fun o => ∃ s p : Nat → Int32, o = some (nI (hr + 1), s, p) ∧ ∀ b, b < f.n → s b = f.nx.st b ∧ p b = nI (f.nx.po b)) ?_ ((0 : Int32), nI hr, store, pool) ⟨rfl, rfl, fun b hb => ⟨hst b hb, hpo b hb⟩⟩ (FU_gt (by omega))
  rintro i ⟨y, h, s, p⟩ hi ⟨h1, h2, h3⟩ rc
  dsimp only at h1 h2 h3
  subst h1 h2
  show (∃ s' p' : Nat → Int32, f_X2_take_L2_b (nI f.n) keeps holds rc (nI i) (nI hr) s p = some _ ∧ _) ∨ (i < f.n ∧ ∃ s', _ ∧ f_X2_take_L2_b (nI f.n) keeps holds rc (nI i) (nI hr) s p = rc s')
  unfold f_X2_take_L2_b
  by_cases h : i = f.n
  · left
    subst h
    refine ⟨s, p, (br_t1 (nI_le (Nat.le_refl _) (by omega))).trans (by rw [nI_1]), fun b hb => ?_⟩
    obtain ⟨e1, e2⟩ := h3 b hb
    rw [e1, e2]
    exact ⟨if_pos hb, congrArg nI (if_pos hb)⟩
  · right
    have hi' : i < f.n := by omega
    refine ⟨hi', ?_⟩
    have v : vp_in (nI i) 10 := vp_in_nI (by omega) (by decide)
    rw [br_f1 (nI_ge hi' (by omega)), gd_t v, gd_t v, gd_t v, gd_t v, gd_t v, gd_t v, nI_clamp (by omega)]
    refine ⟨_, ⟨nI_1 i, rfl, fun b hb => ?_⟩, rfl⟩
    dsimp only
    obtain ⟨e1, e2⟩ := h3 b hb
    by_cases e : b = i
    · subst e
      rw [pk_us, pk_us, e1, e2, hk _ hb, hh _ hb, nI_add]
      show (if b < b then _ else f.st b) + nI (f.kp b) = (if b < b + 1 then _ else _) ∧ nI ((if b < b then _ else f.po b) + f.hd b) = nI (if b < b + 1 then _ else _)
      rw [if_neg (show ¬ b < b by omega), if_pos (show b < b + 1 by omega), if_neg (show ¬ b < b by omega), if_pos (show b < b + 1 by omega)]
      exact ⟨rfl, rfl⟩
    · rw [pk_un e, pk_un e, e1, e2]
      show (if b < i then _ else f.st b) = (if b < i + 1 then _ else _) ∧ nI (if b < i then _ else f.po b) = nI (if b < i + 1 then _ else _)
      by_cases q : b < i
      · rw [if_pos q, if_pos q, if_pos (by omega), if_pos (by omega)]; exact ⟨rfl, rfl⟩
      · rw [if_neg q, if_neg q, if_neg (by omega), if_neg (by omega)]; exact ⟨rfl, rfl⟩
theorem pass_e {f : Fo} (hV : VG f) {kind above edge pool store spot : Nat → Int32} {z : Int32} (hC : CF f kind above edge pool store spot (nI f.n) (nI f.sg) (nI f.hr) z) {k : Nat} (hk : k ≤ 1000) (vk vl vr vu va vb vc : Int32) (W g c kk h : Nat → Int32) :
    ∃ (vk' vl' vr' vu' : Int32) (w' g' c' k' p' h' s' : Nat → Int32), f_X1_pass (nI k) vk vl vr vu va vb vc (nI f.n) (nI f.sg) (nI f.hr) W above edge g c kind kk pool h store = some (vk', vl', vr', vu', nI (f.kpT k), nI (f.lkT k), nI (f.roT k), nI (f.hr + k), w', g', c', k', p', h', s') ∧
      ∀ b, b < f.n → p' b = nI ((f.it k).po b) ∧ s' b = (f.it k).st b ∧ ∀ j, k = j + 1 → k' b = nI ((f.it j).kp b) := by
  unfold f_X1_pass f_X1_pass_L17
  refine lp_go2 _ (fun i (s : Int32 × Int32 × Int32 × Int32 × Int32 × Int32 × Int32 × Int32 × Int32 × (Nat → Int32) × (Nat → Int32) × (Nat → Int32) × (Nat → Int32) × (Nat → Int32) × (Nat → Int32) × (Nat → Int32)) =>
      s.1 = nI i ∧ s.2.2.2.2.2.1 = nI (f.kpT i) ∧ s.2.2.2.2.2.2.1 = nI (f.lkT i) ∧ s.2.2.2.2.2.2.2.1 = nI (f.roT i) ∧ s.2.2.2.2.2.2.2.2.1 = nI (f.hr + i) ∧ ∀ b, b < f.n → s.2.2.2.2.2.2.2.2.2.2.2.2.2.1 b = nI ((f.it i).po b) ∧ s.2.2.2.2.2.2.2.2.2.2.2.2.2.2.2 b = (f.it i).st b ∧ ∀ j, i = j + 1 → s.2.2.2.2.2.2.2.2.2.2.2.2.1 b = nI ((f.it j).kp b)) k
    (fun o => ∃ (vk' vl' vr' vu' : Int32) (w' g' c' k' p' h' s' : Nat → Int32), o = some (vk', vl', vr', vu', nI (f.kpT k), nI (f.lkT k), nI (f.roT k), nI (f.hr + k), w', g', c', k', p', h', s') ∧
      ∀ b, b < f.n → p' b = nI ((f.it k).po b) ∧ s' b = (f.it k).st b ∧ ∀ j, k = j + 1 → k' b = nI ((f.it j).kp b))
    ?_ ((0 : Int32), vk, vl, vr, vu, (0 : Int32), (0 : Int32), (0 : Int32), nI f.hr, W, g, c, kk, pool, h, store) ⟨rfl, rfl, rfl, rfl, rfl, fun b hb => ⟨(hC.2.2.2.2.1 b hb).2.2.2.1, (hC.2.2.2.2.1 b hb).2.2.2.2, fun j hj => absurd hj (by omega)⟩⟩ (FU_gt (by omega))
  rintro i ⟨y, vk, vl, vr, vu, va, vb, vc, hr, w, g, c, kk, p, h, s⟩ hi ⟨h1, h2, h3, h4, h5, h6⟩ rc
  dsimp only at h1 h2 h3 h4 h5 h6
  subst h1 h2 h3 h4 h5
  show (∃ (vk' vl' vr' vu' : Int32) (w' g' c' k' p' h' s' : Nat → Int32), f_X1_pass_L17_b (nI k) (nI f.n) (nI f.sg) above edge kind rc (nI i) vk vl vr vu _ _ _ _ w g c kk p h s = some _ ∧ _) ∨ (i < k ∧ ∃ s', _ ∧ f_X1_pass_L17_b (nI k) (nI f.n) (nI f.sg) above edge kind rc (nI i) vk vl vr vu _ _ _ _ w g c kk p h s = rc s')
  unfold f_X1_pass_L17_b
  by_cases hik : i = k
  · left
    subst hik
    exact ⟨vk, vl, vr, vu, w, g, c, kk, p, h, s, br_t1 (nI_le (Nat.le_refl _) (by omega)), h6⟩
  · right
    have hi' : i < k := by omega
    refine ⟨hi', ?_⟩
    obtain ⟨s1, s2, s3, s4, s5, s6, s7, s8⟩ := it_same f i
    have hVi := VG_it hV i
    have hn := hV.1
    have hGi : CG (f.it i) kind above edge p := by
      intro b hb
      rw [s1] at hb
      obtain ⟨a1, a2, a3, a4, a5⟩ := hC.2.2.2.2.1 b hb
      rw [s2, s3, s4]
      exact ⟨a1, a2, a3, (h6 b hb).1⟩
    obtain ⟨w', g', c', k', h', hR, hv⟩ := reckon_e hVi hGi vk vl vr vu w g c kk h
    rw [s1, s6] at hR
    rw [s1] at hv
    obtain ⟨st', po', hT, hv2⟩ := take_e (f := f.it i) (by rw [s1]; exact hn) (keeps := k') (holds := h') (by rw [s1]; exact fun b hb => (hv b hb).2.1) (by rw [s1]; exact fun b hb => (hv b hb).2.2) (store := s) (pool := p) (by rw [s1]; exact fun b hb => (h6 b hb).2.1) (by rw [s1]; exact fun b hb => (h6 b hb).1) (f.hr + i)
    rw [s1] at hT hv2
    dsimp only
    rw [br_f1 (nI_ge hi' (by omega)), bd_t hR]
    dsimp only
    rw [bd_t hT]
    refine ⟨_, ⟨nI_1 i, nI_add _ _, nI_add _ _, nI_add _ _, rfl, fun b hb => ⟨(hv2 b hb).2, (hv2 b hb).1, fun j hj => ?_⟩⟩, rfl⟩
    have e : j = i := by omega
    rw [e]
    exact (hv b hb).2.1
