/-! ===== case needs ===== -/
def kpc (k c : Nat) : Nat := kKeep k (c - kLeak k c)
def ggc (k c : Nat) : Nat := c - kLeak k c - kpc k c
theorem kpc_le (k c : Nat) : kpc k c ≤ c := by
  have h1 := kKeep_le k (c - kLeak k c)
  unfold kpc
  omega
theorem ggc_le (k c : Nat) : ggc k c ≤ c := by unfold ggc; omega
theorem kpc_add {k : Nat} (hk : k ≤ 6) (c t : Nat) : kpc k (c + t) ≤ kpc k c + t := by
  rcases (show k = 0 ∨ k = 1 ∨ k = 2 ∨ k = 3 ∨ k = 4 ∨ k = 5 ∨ k = 6 by omega) with rfl | rfl | rfl | rfl | rfl | rfl | rfl
  · show (((c + t) - 0) / 3) ≤ ((c - 0) / 3) + t
    omega
  · show (2 * ((c + t) - 0) / 5) ≤ (2 * (c - 0) / 5) + t
    omega
  · show (((c + t) - ((c + t) / 10)) / 3) ≤ ((c - (c / 10)) / 3) + t
    omega
  · show 0 ≤ 0 + t
    omega
  · show (((c + t) - (2 * ((c + t) / 10))) / 3) ≤ ((c - (2 * (c / 10))) / 3) + t
    omega
  · show (((c + t) - 0) / 3) ≤ ((c - 0) / 3) + t
    omega
  · show (((c + t) - 0) / 3) ≤ ((c - 0) / 3) + t
    omega
theorem ggc_add {k : Nat} (hk : k ≤ 6) (c t : Nat) : ggc k (c + t) ≤ ggc k c + t := by
  rcases (show k = 0 ∨ k = 1 ∨ k = 2 ∨ k = 3 ∨ k = 4 ∨ k = 5 ∨ k = 6 by omega) with rfl | rfl | rfl | rfl | rfl | rfl | rfl
  · show ((c + t) - 0 - (((c + t) - 0) / 3)) ≤ (c - 0 - ((c - 0) / 3)) + t
    omega
  · show ((c + t) - 0 - (2 * ((c + t) - 0) / 5)) ≤ (c - 0 - (2 * (c - 0) / 5)) + t
    omega
  · show ((c + t) - ((c + t) / 10) - (((c + t) - ((c + t) / 10)) / 3)) ≤ (c - (c / 10) - ((c - (c / 10)) / 3)) + t
    omega
  · show ((c + t) - 0 - 0) ≤ (c - 0 - 0) + t
    omega
  · show ((c + t) - (2 * ((c + t) / 10)) - (((c + t) - (2 * ((c + t) / 10))) / 3)) ≤ (c - (2 * (c / 10)) - ((c - (2 * (c / 10))) / 3)) + t
    omega
  · show ((c + t) - 0 - (((c + t) - 0) / 3)) ≤ (c - 0 - ((c - 0) / 3)) + t
    omega
  · show ((c + t) - 0 - (((c + t) - 0) / 3)) ≤ (c - 0 - ((c - 0) / 3)) + t
    omega
theorem max_e {a b c d : Nat} (ha : a < 2 ^ 30) (hb : b < 2 ^ 30) (hc : c < 2 ^ 30) (hd : d < 2 ^ 30) (h : 0 < (if nI a - nI b < nI c - nI d then nI c - nI d else nI a - nI b)) :
    ∃ w, (if nI a - nI b < nI c - nI d then nI c - nI d else nI a - nI b) = nI w ∧ (w + b = a ∨ w + d = c) := by
  by_cases q : nI a - nI b < nI c - nI d
  · rw [if_pos q] at h ⊢
    rw [Int32.lt_iff_toInt_lt, pk_sub_toInt hc hd, show (0 : Int32).toInt = 0 from rfl] at h
    exact ⟨c - d, pk_sub (by omega), Or.inr (by omega)⟩
  · rw [if_neg q] at h ⊢
    rw [Int32.lt_iff_toInt_lt, pk_sub_toInt ha hb, show (0 : Int32).toInt = 0 from rfl] at h
    exact ⟨a - b, pk_sub (by omega), Or.inl (by omega)⟩
theorem least7 {k v g : Nat} (hk : k ≤ 6) (hv : v ≤ 99) (hg : g ≤ 10000000) : ∃ C, C < 2 ^ 29 ∧ f_X3_leastComing (nI k) (nI v) (nI g) = some (nI C) ∧ ∀ c, v ≤ kpc k c → g ≤ ggc k c → C ≤ c := by
  have e0 : (if nI v < nI g then nI g else nI v) = nI (if v < g then g else v) := by
    by_cases h : v < g
    · rw [if_pos h, if_pos (nI_lt h (by omega))]
    · rw [if_neg h, if_neg (nI_nlt (by omega) (by omega))]
  unfold f_X3_leastComing
  rw [e0, nm_q]
  unfold f_X3_leastComing_L9
  refine (fun h => ?_ : (∃ r, lp (fun rc v_1 => f_X3_leastComing_L9_b (nI k) (nI v) (nI g) rc v_1.1 v_1.2) FU (nI (if v < g then g else v), (0 : Int32)) = some r ∧ ∃ C, C < 2 ^ 29 ∧ r = nI C ∧ ∀ c, v ≤ kpc k c → g ≤ ggc k c → C ≤ c) → _) ?_
  · obtain ⟨r, hr, C, hC, rfl, hp⟩ := h
    exact ⟨C, hC, hr, hp⟩
  refine lp_go3 100000 (fun i s => s.2 = nI i ∧ ∃ C, C < 2 ^ 29 ∧ s.1 = nI C ∧ ∀ c, v ≤ kpc k c → g ≤ ggc k c → C ≤ c) ⟨rfl, _, by split <;> omega, rfl, fun c h1 h2 => ?_⟩ (FU_gt (by decide)) ?_
  · have := kpc_le k c
    have := ggc_le k c
    split <;> omega
  rintro i ⟨y3, y4⟩ hi ⟨a1, C, hC, a2, a3⟩ rc
  dsimp only at a1 a2 ⊢
  subst a1 a2
  unfold f_X3_leastComing_L9_b
  by_cases hx : i = 100000
  · left
    subst hx
    rw [br_t1 (by decide)]
    exact ⟨_, rfl, C, hC, rfl, a3⟩
  rw [br_f1 (show ¬ (99999 : Int32) < nI i from nI_nlt (a := 99999) (by omega) (by decide))]
  by_cases hl : 99999 < C
  · left
    rw [br_t1 (show (99999 : Int32) < nI C from nI_lt (a := 99999) hl (by omega))]
    exact ⟨_, rfl, C, hC, rfl, a3⟩
  have e1 : kLeak k C ≤ C := kLeak_le _ _
  have e2 : kKeep k (C - kLeak k C) ≤ C - kLeak k C := kKeep_le _ _
  rw [br_f1 (show ¬ (99999 : Int32) < nI C from nI_nlt (a := 99999) (by omega) (by decide)), bd_t (leaks7 hk (by omega)), pk_sub e1, nm_q, bd_t (keeps7 hk (by omega)), pk_sub e2, nm_q]
  have hkp : kKeep k (C - kLeak k C) = kpc k C := rfl
  have hgg : C - kLeak k C - kKeep k (C - kLeak k C) = ggc k C := rfl
  rw [hgg, hkp]
  have b1 := kpc_le k C
  have b2 := ggc_le k C
  by_cases hw : 0 < (if nI v - nI (kpc k C) < nI g - nI (ggc k C) then nI g - nI (ggc k C) else nI v - nI (kpc k C))
  · right
    obtain ⟨w, hw1, hw2⟩ := max_e (a := v) (b := kpc k C) (c := g) (d := ggc k C) (by omega) (by omega) (by omega) (by omega) hw
    rw [br_t1 hw, hw1, nI_add, nm_q]
    refine ⟨by omega, _, ?_, rfl⟩
    refine ⟨nI_1 i, C + w, by omega, rfl, fun c h1 h2 => ?_⟩
    have h3 := a3 c h1 h2
    obtain ⟨t, rfl⟩ : ∃ t, c = C + t := ⟨c - C, by omega⟩
    have h4 := kpc_add hk C t
    have h5 := ggc_add hk C t
    omega
  · left
    rw [br_f1 hw]
    exact ⟨_, rfl, C, hC, rfl, a3⟩
theorem ceil_le {x e g : Nat} (he : 1 ≤ e) (h : x ≤ g * e) : (x + e - 1) / e ≤ g := by
  have h2 : (x + e - 1) / e < g + 1 := by
    apply Nat.div_lt_of_lt_mul
    rw [Nat.mul_add, Nat.mul_comm e g]
    omega
  omega
theorem hold_30 (k c : Nat) : kHold k c 30 = 0 := by
  unfold kHold
  repeat' split
  all_goals omega
/-- with full pools -/
def Fo.poP (f : Fo) (i : Nat) : Fo := (f.n, f.kd, f.ab, f.ed, fun b => if b < i then 30 else f.po b, f.st, f.sp, f.sg, f.hr, f.z)
def Fo.p30 (f : Fo) : Fo := (f.n, f.kd, f.ab, f.ed, fun _ => 30, f.st, f.sp, f.sg, f.hr, f.z)
theorem VG_p30 {f : Fo} (h : VG f) : VG f.p30 := by
  refine ⟨h.1, fun j hj => ?_, h.2.2⟩
  obtain ⟨h1, h2, h3, h4, h5⟩ := h.2.1 j hj
  exact ⟨h1, h2, h3, Nat.le_refl _, h5⟩
theorem p30_go (f : Fo) (s a : Nat) : (f.p30.setSg s).go a = ggc (f.kd a) ((f.p30.setSg s).cm a) := by
  have h : (f.p30.setSg s).hdC a ((f.p30.setSg s).cm a) = 0 := hold_30 _ _
  unfold Fo.go Fo.goC
  rw [h]
  rfl
theorem p30_kp (f : Fo) (s a : Nat) : (f.p30.setSg s).kp a = kpc (f.kd a) ((f.p30.setSg s).cm a) := rfl
def okN (f : Fo) (v s : Nat) : Prop := ∀ b, b < f.n → v ≤ (f.p30.setSg s).kp b
theorem low7 {f : Fo} (hV : VG f) {kind above edge : Nat → Int32} (hkd : ∀ o, o < f.n → kind o = nI (f.kd o)) (hab : ∀ o, o < f.n → above o = abI f.ab o) (hed : ∀ o, o < f.n → edge o = nI (f.ed o)) {b v : Nat} (hb : b < f.n) (hv : v ≤ 99) :
    ∃ C, C < 2 ^ 29 ∧ f_X7_lowestSpringFor (nI b) (nI v) (nI f.n) kind above edge = some (nI C) ∧ ∀ s, s ≤ 99999 → okN f v s → C ≤ s := by
  have hn := hV.1
  obtain ⟨C0, hC0, hL, hp0⟩ := least7 (k := f.kd b) (v := v) (g := 0) (hV.2.1 b hb).1 hv (by decide)
  unfold f_X7_lowestSpringFor
  rw [gd_t (vp_in_nI (by omega) (by decide)), nI_clamp (by omega), hkd b hb, bd_t (show f_X3_leastComing (nI (f.kd b)) (nI v) (0 : Int32) = _ from hL)]
  unfold f_X7_lowestSpringFor_L21
  refine (fun h => ?_ : (∃ r, lp (fun rc v_1 => f_X7_lowestSpringFor_L21_b (nI b) (nI v) (nI f.n) kind above edge rc v_1.1 v_1.2.1 v_1.2.2) FU (nI C0, nI b, (0 : Int32)) = some r ∧ ∃ C, C < 2 ^ 29 ∧ r = nI C ∧ ∀ s, s ≤ 99999 → okN f v s → C ≤ s) → _) ?_
  · obtain ⟨r, hr, C, hC, rfl, hp⟩ := h
    exact ⟨C, hC, hr, hp⟩
  refine lp_go3 10 (fun i t => t.2.2 = nI i ∧ ∃ C a, C < 2 ^ 29 ∧ a < f.n ∧ t.1 = nI C ∧ t.2.1 = nI a ∧ ∀ s, s ≤ 99999 → okN f v s → C ≤ (f.p30.setSg s).cm a) ⟨rfl, C0, b, hC0, hb, rfl, rfl, fun s hs h => hp0 _ (h b hb) (Nat.zero_le _)⟩ (FU_gt (by decide)) ?_
  rintro i ⟨y3, y4, y5⟩ hi ⟨a1, C, a, hC, ha, a2, a3, a4⟩ rc
  dsimp only at a1 a2 a3 ⊢
  subst a1 a2 a3
  have fin : ∀ s, s ≤ 99999 → okN f v s → C ≤ s := fun s hs h => Nat.le_trans (a4 s hs h) (cm_le (VG_Sg (VG_p30 hV) hs) a ha)
  unfold f_X7_lowestSpringFor_L21_b
  by_cases hx : i = 10
  · left
    subst hx
    rw [br_t1 (by decide)]
    exact ⟨_, rfl, C, hC, rfl, fin⟩
  rw [br_f1 (show ¬ (10 : Int32) ≤ nI i from nI_ge (b := 10) (by omega) (by decide))]
  by_cases h0 : a = 0
  · left
    rw [br_t1 (show nI a ≤ 0 by rw [h0]; decide)]
    exact ⟨_, rfl, C, hC, rfl, fin⟩
  rw [br_f1 (nI_nle (by omega) (by omega))]
  by_cases hl : 99999 < C
  · left
    rw [br_t1 (show (99999 : Int32) < nI C from nI_lt (a := 99999) hl (by omega))]
    exact ⟨_, rfl, C, hC, rfl, fin⟩
  right
  refine ⟨by omega, ?_⟩
  obtain ⟨hk6, he1, he9, -, habl⟩ := hV.2.1 a ha
  have hlt := habl (by omega)
  have va : vp_in (nI a) 10 := vp_in_nI (by omega) (by decide)
  have hw := wd_ge (f := f) (b := a) (by omega) ha
  have hw9 : f.wd (f.ab a) ≤ 90 := wd_le hV f.n (f.ab a) (Nat.le_refl _)
  have hCw : C * f.wd (f.ab a) ≤ 99999 * 90 := Nat.mul_le_mul (by omega) hw9
  have hz : nI C * nI (f.wd (f.ab a)) + nI (f.ed a) - (1 : Int32) = nI (C * f.wd (f.ab a) + f.ed a - 1) := by
    rw [pk_mul, nI_add]
    exact pk_sub (b := 1) (by omega)
  have hgl : (C * f.wd (f.ab a) + f.ed a - 1) / f.ed a ≤ 10000000 := Nat.le_trans (Nat.div_le_self _ _) (by omega)
  obtain ⟨C2, hC2, hL2, hp2⟩ := least7 (k := f.kd (f.ab a)) (v := 0) (g := (C * f.wd (f.ab a) + f.ed a - 1) / f.ed a) (hV.2.1 _ (by omega)).1 (by decide) hgl
  rw [br_f1 (show ¬ (99999 : Int32) < nI C from nI_nlt (a := 99999) (by omega) (by decide)), gd_t va, nm_q, gd_t va, nm_q, nI_clamp (show a < 2 ^ 31 by omega), hab a ha, hed a ha, abI_s _ h0, br_f1 (nI_pos (by omega)), br_t1 (show (1 : Int32) ≤ nI (f.ed a) from nI_le (a := 1) he1 (by omega)), bd_t (width7 hV hab hed (by omega)), gd_t (nI_ne0 (by omega) (by omega)), hz, pk_div (by omega) (by omega) (by omega), nm_q, gd_t (vp_in_nI (by omega) (by decide)), nI_clamp (show f.ab a < 2 ^ 31 by omega), hkd _ (by omega), bd_t (show f_X3_leastComing (nI (f.kd (f.ab a))) (0 : Int32) _ = _ from hL2)]
  refine ⟨_, ?_, rfl⟩
  refine ⟨nI_1 i, C2, f.ab a, hC2, by omega, rfl, rfl, fun s hs h => hp2 _ (Nat.zero_le _) ?_⟩
  have h1 := a4 s hs h
  have h2 : (f.p30.setSg s).cm a = (f.p30.setSg s).go (f.ab a) * f.ed a / f.wd (f.ab a) := cm_s (f := f.p30.setSg s) (show 1 ≤ a by omega) hlt
  rw [h2] at h1
  rw [← p30_go]
  refine ceil_le he1 ?_
  exact (Nat.le_div_iff_mul_le (show 0 < f.wd (f.ab a) by omega)).mp h1
theorem lowAll7 {f : Fo} (hV : VG f) {kind above edge : Nat → Int32} (hkd : ∀ o, o < f.n → kind o = nI (f.kd o)) (hab : ∀ o, o < f.n → above o = abI f.ab o) (hed : ∀ o, o < f.n → edge o = nI (f.ed o)) {v : Nat} (hv : v ≤ 99) :
    ∃ C, 1 ≤ C ∧ C < 2 ^ 29 ∧ f_X7_lowestSpringForAll (nI v) (nI f.n) kind above edge = some (nI C) ∧ ∀ s, 1 ≤ s → s ≤ 99999 → okN f v s → C ≤ s := by
  have hn := hV.1
  unfold f_X7_lowestSpringForAll f_X7_lowestSpringForAll_L4
  refine (fun h => ?_ : (∃ r, lp (fun rc v_1 => f_X7_lowestSpringForAll_L4_b (nI v) (nI f.n) kind above edge rc v_1.1 v_1.2) FU ((1 : Int32), (0 : Int32)) = some r ∧ ∃ C, 1 ≤ C ∧ C < 2 ^ 29 ∧ r = nI C ∧ ∀ s, 1 ≤ s → s ≤ 99999 → okN f v s → C ≤ s) → _) ?_
  · obtain ⟨r, hr, C, hC1, hC, rfl, hp⟩ := h
    exact ⟨C, hC1, hC, hr, hp⟩
  refine lp_go3 f.n (fun i t => t.2 = nI i ∧ ∃ C, 1 ≤ C ∧ C < 2 ^ 29 ∧ t.1 = nI C ∧ ∀ s, 1 ≤ s → s ≤ 99999 → okN f v s → C ≤ s) ⟨rfl, 1, by decide, by decide, rfl, fun s h _ _ => h⟩ (FU_gt (by omega)) ?_
  rintro i ⟨y2, y3⟩ hi ⟨a1, C, hC1, hC, a2, a3⟩ rc
  dsimp only at a1 a2 ⊢
  subst a1 a2
  unfold f_X7_lowestSpringForAll_L4_b
  by_cases hx : i = f.n
  · left
    subst hx
    rw [br_t1 (nI_le (Nat.le_refl _) (by omega))]
    exact ⟨_, rfl, C, hC1, hC, rfl, a3⟩
  right
  have hi' : i < f.n := by omega
  refine ⟨hi', ?_⟩
  obtain ⟨D, hD, hL, hp⟩ := low7 hV hkd hab hed hi' hv
  rw [br_f1 (nI_ge hi' (by omega)), bd_t hL, nm_q]
  refine ⟨_, ?_, rfl⟩
  refine ⟨nI_1 i, if C < D then D else C, ?_, ?_, ?_, fun s h1 h2 h3 => ?_⟩
  · split <;> omega
  · split <;> omega
  · dsimp only
    by_cases h : C < D
    · rw [if_pos h, if_pos (nI_lt h (by omega))]
    · rw [if_neg h, if_neg (nI_nlt (by omega) (by omega))]
  · have := hp s h2 h3
    have := a3 s h1 h2 h3
    split <;> omega
theorem each7 {n v : Nat} (hn : n ≤ 10) (hv : v ≤ 99) {k : Nat → Int32} {g : Nat → Nat} (hk : ∀ b, b < n → k b = nI (g b)) (hg : ∀ b, b < n → g b ≤ 99999) : f_X7_eachKeeps (nI v) (nI n) k = some (kI (∀ b, b < n → v ≤ g b)) := by
  unfold f_X7_eachKeeps f_X7_eachKeeps_L2
  refine lp_go2 _ (fun i (s : Int32) => s = nI i ∧ ∀ b, b < i → v ≤ g b) n (fun o => o = some (kI (∀ b, b < n → v ≤ g b))) ?_ _ ⟨rfl, fun b hb => absurd hb (by omega)⟩ (FU_gt (by omega))
  rintro i y hi ⟨a1, a2⟩ rc
  subst a1
  unfold f_X7_eachKeeps_L2_b
  by_cases hx : i = n
  · left
    subst hx
    rw [br_t1 (nI_le (Nat.le_refl _) (by omega)), kI_t a2]
  · have hgi := hg i (by omega)
    rw [br_f1 (nI_ge (by omega) (by omega)), gd_t (vp_in_nI (by omega) (by decide)), nI_clamp (by omega), hk i (by omega)]
    by_cases q : v ≤ g i
    · right
      rw [br_t1 (nI_le q (by omega))]
      refine ⟨by omega, _, ?_, rfl⟩
      refine ⟨nI_1 i, fun b hb => ?_⟩
      by_cases e : b = i
      · rw [e]; exact q
      · exact a2 b (by omega)
    · left
      rw [br_f1 (nI_ge (by omega) (by omega)), kI_f (fun h => q (h i (by omega)))]
theorem all8 {f : Fo} (hV : VG f) {d : Nat → Int32} (hM : MF f d) {v : Nat} (hv : v ≤ 99) (vl vk vo : Int32) (came got held off : Nat → Int32) :
    ∃ r, f_X8_isAllKept (nI v) vl vk vo d came got held off = some r ∧ r.1 = kI (∀ b, b < f.n → v ≤ f.kp b) := by
  have hn := hV.1
  obtain ⟨c, g, h, o, hL, hvv⟩ := look_e hV hM vl vk vo came got held off
  unfold f_X8_isAllKept
  rw [bd_t hL]
  dsimp only
  unfold f_X8_isAllKept_L6
  refine lp_go3 f.n (fun i s => s.1 = nI i ∧ (∀ b, b < i → v ≤ f.kp b) ∧ s.2.2.2.2.2.1 = g) ⟨rfl, fun b hb => absurd hb (by omega), rfl⟩ (FU_gt (by omega)) ?_
  rintro i ⟨y, v1, v2, v3, c1, g1, h1, o1⟩ hi ⟨a1, a2, a3⟩ rc
  dsimp only at a1 a2 a3 ⊢
  subst a1 a3
  unfold f_X8_isAllKept_L6_b
  rw [show d (0 : Int32).toNatClampNeg = nI f.n from hM.1]
  by_cases hx : i = f.n
  · left
    subst hx
    rw [br_t1 (nI_le (Nat.le_refl _) (by omega))]
    exact ⟨_, rfl, (kI_t a2).symm⟩
  · have hi' : i < f.n := by omega
    have h5 := kp_5 hV hi'
    rw [br_f1 (nI_ge hi' (by omega)), gd_t (vp_in_nI (by omega) (by decide)), nI_clamp (by omega), (hvv i hi').2.1]
    by_cases q : v ≤ f.kp i
    · right
      rw [br_t1 (nI_le q (by omega))]
      refine ⟨hi', _, ?_, rfl⟩
      refine ⟨nI_1 i, fun b hb => ?_, rfl⟩
      by_cases e : b = i
      · rw [e]; exact q
      · exact a2 b (by omega)
    · left
      rw [br_f1 (nI_ge (by omega) (by omega))]
      exact ⟨_, rfl, (kI_f (fun h => q (h i hi'))).symm⟩
theorem CF_poP_s {f : Fo} {i : Nat} {kind above edge pool store spot : Nat → Int32} {basins spring hour z : Int32} (h : CF (f.poP i) kind above edge pool store spot basins spring hour z) : CF (f.poP (i + 1)) kind above edge (upd pool i 30) store spot basins spring hour z := by
  obtain ⟨h0, h1, h2, h3, h4, h5⟩ := h
  refine ⟨h0, h1, h2, h3, fun j hj => ?_, h5⟩
  obtain ⟨a1, a2, a3, a4, a5⟩ := h4 j hj
  refine ⟨a1, a2, a3, ?_, a5⟩
  show upd pool i 30 j = nI (if j < i + 1 then 30 else f.po j)
  by_cases e : j = i
  · rw [e, pk_us, if_pos (by omega)]; rfl
  · rw [pk_un e, a4]
    show nI (if j < i then 30 else f.po j) = _
    by_cases q : j < i
    · rw [if_pos q, if_pos (by omega)]
    · rw [if_neg q, if_neg (by omega)]
theorem CF_poP_n {f : Fo} {kind above edge pool store spot : Nat → Int32} {basins spring hour z : Int32} (h : CF (f.poP f.n) kind above edge pool store spot basins spring hour z) : CF f.p30 kind above edge pool store spot basins spring hour z := by
  obtain ⟨h0, h1, h2, h3, h4, h5⟩ := h
  refine ⟨h0, h1, h2, h3, fun j hj => ?_, h5⟩
  obtain ⟨a1, a2, a3, a4, a5⟩ := h4 j hj
  exact ⟨a1, a2, a3, a4.trans (congrArg nI (if_pos hj)), a5⟩
theorem MF_poP_s {f : Fo} (hn : f.n ≤ 10) {i : Nat} (hi : i < f.n) {d : Nat → Int32} (h : MF (f.poP i) d) : MF (f.poP (i + 1)) (upd d (4 + 5 * i + 3) (nI 30)) := by
  have h2 := MF_Po h hn hi 30
  refine MF_eq (f := (f.poP i).setPo i 30) (g := f.poP (i + 1)) h2 rfl rfl rfl rfl (fun _ _ => rfl) (fun b hb => ⟨rfl, fun _ => rfl, rfl, ?_, rfl⟩)
  show (if b < i + 1 then 30 else f.po b) = fset (fun b => if b < i then 30 else f.po b) i 30 b
  by_cases e : b = i
  · rw [e, fset_s, if_pos (by omega)]
  · rw [fset_n e]
    by_cases q : b < i
    · rw [if_pos q, if_pos (by omega)]
    · rw [if_neg q, if_neg (by omega)]
theorem MF_poP_n {f : Fo} {d : Nat → Int32} (h : MF (f.poP f.n) d) : MF f.p30 d :=
  MF_eq (f := f.poP f.n) (g := f.p30) h rfl rfl rfl rfl (fun _ _ => rfl) (fun b hb => ⟨rfl, fun _ => rfl, rfl, (if_pos hb).symm, rfl⟩)
theorem holy_no {f : Fo} {v s b : Nat} (hv : 1 ≤ v) (hb : b < f.n) (h3 : f.kd b = 3) : ¬ okN f v s := by
  intro h
  have h1 := h b hb
  rw [p30_kp, h3] at h1
  have : kpc 3 ((f.p30.setSg s).cm b) = 0 := rfl
  omega
theorem lp_go3f {σ α : Type} {step : (σ → Option α) → σ → Option α} {s0 : σ} {Q : α → Prop} (n i0 : Nat) (hi0 : i0 ≤ n) (I : Nat → σ → Prop) (h0 : I i0 s0) (hn : n < FU)
    (h : ∀ i s, i ≤ n → I i s → ∀ rc, (∃ r, step rc s = some r ∧ Q r) ∨ (i < n ∧ ∃ s', I (i + 1) s' ∧ step rc s = rc s')) : ∃ r, lp step FU s0 = some r ∧ Q r :=
  lp_inv2 step I n (fun o => ∃ r, o = some r ∧ Q r) h n i0 s0 FU (by omega) hi0 h0 hn
theorem L_needs (x1 : Int32) (cT_present_kind : Nat → Int32) (cT_present_above : Nat → Int32) (cT_present_edge : Nat → Int32) (cT_present_pool : Nat → Int32) (cT_present_store : Nat → Int32) (cT_present_spot : Nat → Int32) (vT_present_basins : Int32) (vT_present_spring : Int32) (vT_present_hour : Int32) (vT_present_z : Int32) (vT_pictured : Int32) (cT_picture_kind : Nat → Int32) (cT_picture_above : Nat → Int32) (cT_picture_edge : Nat → Int32) (cT_picture_pool : Nat → Int32) (cT_picture_store : Nat → Int32) (cT_picture_spot : Nat → Int32) (vT_picture_basins : Int32) (vT_picture_spring : Int32) (vT_picture_hour : Int32) (vT_picture_z : Int32) (cT_told : Nat → Int32) (cT_tape_bytes : Nat → Int32) (vT_tape_size : Int32) (vT_sheets_bits : Nat → Int32) (vT_sheets_size : Nat → Int32) (cT_sheets_numbers : Nat → Nat → Int32) (cM_d : Nat → Int32) (vM_isKept : Int32) (cM_kept : Nat → Int32) (cM_found : Nat → Int32) (cM_tape : Nat → Int32) (vM_taped : Int32) (cM_bitsOf : Nat → Int32) (cM_sizeOf : Nat → Int32) (cM_number : Nat → Int32) (vT_trial_basins : Int32) (vT_trial_spring : Int32) (vT_trial_hour : Int32) (vT_trial_z : Int32) (cT_trial_kind : Nat → Int32) (cT_trial_above : Nat → Int32) (cT_trial_edge : Nat → Int32) (cT_trial_pool : Nat → Int32) (cT_trial_store : Nat → Int32) (cT_trial_spot : Nat → Int32) (vT_flow_kept : Int32) (vT_flow_leaked : Int32) (vT_flow_ranOff : Int32) (vT_flow_uneven : Int32) (cT_flow_width : Nat → Int32) (cT_flow_goesOn : Nat → Int32) (cT_flow_comes : Nat → Int32) (cT_flow_keeps : Nat → Int32) (cT_flow_holds : Nat → Int32) (vM_leaked : Int32) (vM_keptAll : Int32) (vM_offAll : Int32) (cM_e : Nat → Int32) (cM_came : Nat → Int32) (cM_got : Nat → Int32) (cM_held : Nat → Int32) (cM_off : Nat → Int32) (hI : Inv cT_present_kind cT_present_above cT_present_edge cT_present_pool cT_present_store cT_present_spot vT_present_basins vT_present_spring vT_present_hour vT_present_z vT_pictured cT_picture_kind cT_picture_above cT_picture_edge cT_picture_pool cT_picture_store cT_picture_spot vT_picture_basins vT_picture_spring vT_picture_hour vT_picture_z cT_told cT_tape_bytes vT_tape_size vT_sheets_bits vT_sheets_size cT_sheets_numbers cM_d vM_isKept cM_kept cM_found cM_tape vM_taped cM_bitsOf cM_sizeOf cM_number) : ∃ (u : Int32 × Int32 × Int32 × Int32 × Int32 × (Nat → Int32) × (Nat → Int32) × (Nat → Int32) × (Nat → Int32) × (Nat → Int32) × (Nat → Int32) × (Nat → Int32) × Int32 × Int32 × Int32 × Int32 × (Nat → Int32) × (Nat → Int32) × (Nat → Int32) × (Nat → Int32) × (Nat → Int32)) (v : Int32 × Int32 × Int32 × Int32 × (Nat → Int32) × (Nat → Int32) × (Nat → Int32) × (Nat → Int32) × (Nat → Int32) × (Nat → Int32) × (Nat → Int32)), f_X7_needs x1 vT_present_basins vT_present_spring vT_present_hour vT_present_z vT_trial_basins vT_trial_spring vT_trial_hour vT_trial_z cT_present_kind cT_trial_kind cT_present_above cT_trial_above cT_present_edge cT_trial_edge cT_present_pool cT_trial_pool cT_present_store cT_trial_store cT_present_spot cT_trial_spot cT_told vT_flow_kept vT_flow_leaked vT_flow_ranOff vT_flow_uneven cT_flow_width cT_flow_goesOn cT_flow_comes cT_flow_keeps cT_flow_holds = some u ∧ f_X8_needs x1 vM_leaked vM_keptAll vM_offAll cM_d cM_e cM_came cM_got cM_held cM_off cM_found = some v ∧ u.1 = v.1 ∧ Inv cT_present_kind cT_present_above cT_present_edge cT_present_pool cT_present_store cT_present_spot vT_present_basins vT_present_spring vT_present_hour vT_present_z vT_pictured cT_picture_kind cT_picture_above cT_picture_edge cT_picture_pool cT_picture_store cT_picture_spot vT_picture_basins vT_picture_spring vT_picture_hour vT_picture_z u.2.2.2.2.2.2.2.2.2.2.2.1 cT_tape_bytes vT_tape_size vT_sheets_bits vT_sheets_size cT_sheets_numbers v.2.2.2.2.1 vM_isKept cM_kept v.2.2.2.2.2.2.2.2.2.2 cM_tape vM_taped cM_bitsOf cM_sizeOf cM_number := by
  obtain ⟨⟨f, hV, hC, hM⟩, hI2, hT, hP, hS⟩ := hI
  have hF : RF cT_present_kind cT_present_above cT_present_edge cT_present_pool cT_present_store cT_present_spot vT_present_basins vT_present_spring vT_present_hour vT_present_z cM_d := ⟨f, hV, hC, hM⟩
  have hn : f.n ≤ 10 := hV.1
  have hG : VG f := VG_of hV
  have h71 : f_X7_within x1 (1 : Int32) (99 : Int32) = some (kI (rg 1 99 x1)) := within_n (by decide) (by decide) x1
  have h81 : f_X8_in x1.toInt64 (1 : Int64) (99 : Int64) = some (kI (rg 1 99 x1)) := in_n (by decide) rfl rfl x1
  unfold f_X7_needs f_X8_needs
  rw [bd_t h71, bd_t h81, br_kI, br_kI, show cM_d (0 : Int32).toNatClampNeg = nI f.n from hM.1]
  obtain rfl := hC.1
  by_cases hw : rg 1 99 x1
  rotate_left
  · rw [br_f1 hw, br_f1 hw, bd_t (tell0 _), bd_t (finds0 _)]
    exact ⟨_, _, rfl, rfl, rfl, hF, hI2, RT_tell hT 0, hP, hS⟩
  rw [br_t1 hw, br_t1 hw]
  obtain ⟨v, hv1, hv, rfl⟩ := hw
  by_cases h0 : f.n = 0
  · rw [br_t1 (show nI f.n = 0 by rw [h0]; rfl), br_t1 (show nI f.n = 0 by rw [h0]; rfl), bd_t (tell4 _), bd_t (finds4 _)]
    exact ⟨_, _, rfl, rfl, rfl, hF, hI2, RT_tell hT 4, hP, hS⟩
  obtain ⟨tk', ta', te', tp', ts', tt', hSt, hCt⟩ := start_e hn hC vT_trial_basins vT_trial_spring vT_trial_hour vT_trial_z cT_trial_kind cT_trial_above cT_trial_edge cT_trial_pool cT_trial_store cT_trial_spot
  obtain ⟨F1, hF1, hF2⟩ := copies_e cM_d cM_e
  rw [br_f1 (nI_ne 0 0 h0), br_f1 (nI_ne 0 0 h0), bd_t hSt, bd_t hF1]
  dsimp only
  have hkp5 : ∀ s, s ≤ 99999 → ∀ b, b < f.n → (f.p30.setSg s).kp b ≤ 99999 := fun s hs b hb => kp_5 (VG_Sg (VG_p30 hG) hs) hb
  refine two_ex (fun u => srch (fun i => okN f v (1 + i)) 99999 (fun j => u.1 = nI (1 + j) ∧ u.2.2.2.2.2.2.2.2.2.2.2.1 = cT_told) (u.1 = -1000004 ∧ u.2.2.2.2.2.2.2.2.2.2.2.1 = upd cT_told 3 (cT_told 3 + 1)))
    (fun u => (∀ i, i < 64 → u.2.2.2.2.1 i = cM_d i) ∧ srch (fun i => okN f v (1 + i)) 99999 (fun j => u.1 = nI (1 + j) ∧ u.2.2.2.2.2.2.2.2.2.2 = cM_found) (u.1 = -1000004 ∧ u.2.2.2.2.2.2.2.2.2.2 = upd cM_found 3 (cM_found 3 + 1))) ?_ ?_ ?_
  · unfold f_X7_needs_L40
    refine lp_go3 f.n (fun i s => s.1 = nI i ∧ s.2.2.2.2.2.2.2.2.2.2.2.1 = cT_told ∧ CF (f.poP i) s.2.2.2.2.2.1 s.2.2.2.2.2.2.1 s.2.2.2.2.2.2.2.1 s.2.2.2.2.2.2.2.2.1 s.2.2.2.2.2.2.2.2.2.1 s.2.2.2.2.2.2.2.2.2.2.1 s.2.1 s.2.2.1 s.2.2.2.1 s.2.2.2.2.1) ⟨rfl, rfl, hCt⟩ (FU_gt (by omega)) ?_
    rintro i ⟨y, tb, ts, th, tz, tk, ta, te, tp, tst, tsp, tld, v1, v2, v3, v4, w1, w2, w3, w4, w5⟩ hi ⟨a1, a2, a3⟩ rc
    dsimp only at a1 a2 a3 ⊢
    subst a1 a2
    unfold f_X7_needs_L40_b
    have htb : tb = nI f.n := a3.1
    rw [htb]
    by_cases hx : i = f.n
    rotate_left
    · right
      have hi' : i < f.n := by omega
      rw [br_f1 (nI_ge hi' (by omega)), gd_t (vp_in_nI (by omega) (by decide)), nI_clamp (by omega)]
      refine ⟨hi', _, ?_, rfl⟩
      exact ⟨nI_1 i, rfl, CF_poP_s (htb ▸ a3)⟩
    left
    subst hx
    rw [br_t1 (nI_le (Nat.le_refl _) (by omega))]
    have hC3 : CF f.p30 tk ta te tp tst tsp (nI f.n) ts th tz := CF_poP_n (htb ▸ a3)
    obtain ⟨C, hC1, hCl, hL, hLp⟩ := lowAll7 (f := f) hG (fun o ho => (hC3.2.2.2.2.1 o ho).1) (fun o ho => (hC3.2.2.2.2.1 o ho).2.1) (fun o ho => (hC3.2.2.2.2.1 o ho).2.2.1) hv
    rw [bd_t hL]
    unfold f_X7_needs_L74
    refine lp_go3f 99999 (if C ≤ 100000 then C - 1 else 0) (by split <;> omega) (fun i s => s.2.2.2.2.2.2.2.2.2.2.2.1 = tld ∧ (∃ q, CF (f.p30.setSg q) s.2.2.2.2.2.1 s.2.2.2.2.2.2.1 s.2.2.2.2.2.2.2.1 s.2.2.2.2.2.2.2.2.1 s.2.2.2.2.2.2.2.2.2.1 s.2.2.2.2.2.2.2.2.2.2.1 s.2.1 s.2.2.1 s.2.2.2.1 s.2.2.2.2.1) ∧ ((s.1 = nI (1 + i) ∧ ∀ j, j < i → ¬ okN f v (1 + j)) ∨ (s.1 = nI C ∧ 100000 < C))) ⟨rfl, ⟨ts.toInt.toNat, ?_⟩, ?_⟩ (FU_gt (by decide)) ?_
    · have hts : ts = nI f.sg := hC3.2.1
      have hsg5 : f.sg ≤ 99999 := hV.2.2.1
      rw [hts, nI_toInt (by omega), Int.toNat_natCast]
      rw [hts] at hC3
      exact hC3
    · by_cases h : C ≤ 100000
      · left
        rw [if_pos h]
        refine ⟨congrArg nI (by omega), fun j hj hok => ?_⟩
        have := hLp (1 + j) (by omega) (by omega) hok
        omega
      · right
        exact ⟨rfl, by omega⟩
    rintro i ⟨y, tb, ts, th, tz, tk, ta, te, tp, tst, tsp, tl2, v1, v2, v3, v4, w1, w2, w3, w4, w5⟩ hi ⟨a1, ⟨q, hCq⟩, a3⟩ rd
    dsimp only at a1 hCq a3 ⊢
    subst a1
    unfold f_X7_needs_L74_b
    rcases a3 with ⟨rfl, a4⟩ | ⟨rfl, a4⟩
    rotate_left
    · left
      rw [br_t1 (show (99999 : Int32) < nI C from nI_lt (a := 99999) (by omega) (by omega)), bd_t (tell3 _)]
      refine ⟨_, rfl, Or.inr ⟨fun j hj hok => ?_, rfl, rfl⟩⟩
      have := hLp (1 + j) (by omega) (by omega) hok
      omega
    by_cases hx : i = 99999
    · left
      subst hx
      rw [br_t1 (by decide), bd_t (tell3 _)]
      exact ⟨_, rfl, Or.inr ⟨a4, rfl, rfl⟩⟩
    have hVs : VG (f.p30.setSg (1 + i)) := VG_Sg (VG_p30 hG) (by omega)
    have hCs := CF_Sg hCq (1 + i)
    obtain ⟨w', g', c', k', h', hR, hRv⟩ := reckon_c hVs hCs v1 v2 v3 v4 w1 w2 w3 w4 w5
    have htb2 : tb = nI f.n := hCq.1
    have hE : f_X7_eachKeeps (nI v) (nI f.n) k' = some (kI (okN f v (1 + i))) := each7 (n := f.n) hn hv (k := k') (g := fun b => (f.p30.setSg (1 + i)).kp b) (fun b hb => (hRv b hb).2.1) (fun b hb => hkp5 (1 + i) (by omega) b hb)
    rw [← htb2] at hE
    rw [br_f1 (show ¬ (99999 : Int32) < nI (1 + i) from nI_nlt (a := 99999) (by omega) (by decide)), bd_t hR]
    dsimp only
    rw [bd_t hE, br_kI]
    by_cases hq : okN f v (1 + i)
    · left
      rw [br_t1 hq]
      exact ⟨_, rfl, Or.inl ⟨i, ⟨by omega, hq, a4⟩, rfl, rfl⟩⟩
    · right
      rw [br_f1 hq]
      refine ⟨by omega, _, ?_, rfl⟩
      exact ⟨rfl, ⟨1 + i, hCs⟩, Or.inl ⟨nI_1 _, not_s (P := fun i => okN f v (1 + i)) a4 hq⟩⟩
  · unfold f_X8_needs_L48
    refine lp_go3 f.n (fun i s => s.1 = kI (∃ a, a < i ∧ f.kd a = 3) ∧ s.2.1 = nI i ∧ MF (f.poP i) s.2.2.2.2.2.1 ∧ s.2.2.2.2.2.2.1 = F1 ∧ s.2.2.2.2.2.2.2.2.2.2.2 = cM_found) ⟨(kI_f (fun ⟨a, ha, _⟩ => absurd ha (by omega))).symm, rfl, hM, rfl, rfl⟩ (FU_gt (by omega)) ?_
    rintro i ⟨y2, y3, vl, vk, vo, d1, e1, c1, g1, h1, o1, fo⟩ hi ⟨a1, a2, a3, a4, a5⟩ rc
    dsimp only at a1 a2 a3 a4 a5 ⊢
    subst a1 a2 a4 a5
    unfold f_X8_needs_L48_b
    rw [show d1 (0 : Int32).toNatClampNeg = nI f.n from a3.1]
    by_cases hx : i = f.n
    rotate_left
    · right
      have hi' : i < f.n := by omega
      have hM3 := MF_poP_s hn hi' a3
      have hk3 := (its_k hM3 (show (f.poP (i + 1)).n ≤ 10 from hn) (b := i) hi').1
      have hkd3 : (f.poP (i + 1)).kd i = f.kd i := rfl
      rw [hkd3] at hk3
      obtain ⟨hk6, -, -, -, -⟩ := hV.2.1 i hi'
      rw [br_f1 (nI_ge hi' (by omega)), bd_t (show f_X8_sets (nI i) (3 : Int32) (30 : Int32) d1 = _ from sets_e (c := 3) (by omega) _ _), br_kI]
      refine ⟨hi', ?_⟩
      by_cases hh : ∃ a, a < i ∧ f.kd a = 3
      · rw [br_t1 hh]
        refine ⟨_, ?_, rfl⟩
        exact ⟨(kI_t (by obtain ⟨a, ha, h⟩ := hh; exact ⟨a, by omega, h⟩)).symm, nI_1 i, hM3, rfl, rfl⟩
      · rw [br_f1 hh, bd_t (show f_X8_its (nI i) (0 : Int32) (upd d1 (4 + 5 * i + 3) 30) = _ from hk3)]
        by_cases h3 : f.kd i = 3
        · rw [br_t1 (show nI (f.kd i) = 3 by rw [h3]; rfl)]
          refine ⟨_, ?_, rfl⟩
          exact ⟨(kI_t ⟨i, by omega, h3⟩).symm, nI_1 i, hM3, rfl, rfl⟩
        · rw [br_f1 (nI_ne 3 3 h3)]
          refine ⟨_, ?_, rfl⟩
          refine ⟨(kI_f ?_).symm, nI_1 i, hM3, rfl, rfl⟩
          rintro ⟨a, ha, h⟩
          by_cases e : a = i
          · rw [e] at h; exact h3 h
          · exact hh ⟨a, by omega, h⟩
    left
    subst hx
    rw [br_t1 (nI_le (Nat.le_refl _) (by omega))]
    have hM3 := MF_poP_n a3
    unfold f_X8_needs_L97
    refine lp_go3 100000 (fun i s => s.1 = kI (∃ a, a < f.n ∧ f.kd a = 3) ∧ s.2.2.2.2.2.2.2.1 = e1 ∧ s.2.2.2.2.2.2.2.2.2.2.2.2 = fo ∧ (∀ j, j < 64 → j ≠ 3 → s.2.2.2.2.2.2.1 j = d1 j) ∧ ((s.2.2.1 = 0 ∧ i ≤ 99999 ∧ s.2.1 = nI (1 + i) ∧ ∀ j, j < i → ¬ okN f v (1 + j)) ∨ (s.2.2.1 = 1 ∧ ∃ j, fst1 (fun i => okN f v (1 + i)) 99999 j ∧ s.2.1 = nI (1 + j)))) ⟨rfl, rfl, rfl, fun _ _ _ => rfl, Or.inl ⟨rfl, by decide, rfl, fun j hj => absurd hj (by omega)⟩⟩ (FU_gt (by decide)) ?_
    rintro i ⟨y2, y3, y4, vl, vk, vo, d2, e2, c2, g2, h2, o2, fo2⟩ hi ⟨b1, b2, b3, b4, b5⟩ rd
    dsimp only at b1 b2 b3 b4 b5 ⊢
    subst b1 b2 b3
    unfold f_X8_needs_L97_b f_X8_needs_J142
    obtain ⟨D, hD, hD2⟩ := copies_e e2 d2
    have hd3 : ∀ j, j < 64 → D j = cM_d j := fun j hj => (hD2 j hj).trans (hF2 j hj)
    rw [br_kI, bd_t hD]
    by_cases hh : ∃ a, a < f.n ∧ f.kd a = 3
    · left
      have hno : ∀ s, ¬ okN f v s := by
        obtain ⟨a, ha, h3⟩ := hh
        exact fun s => holy_no hv1 ha h3
      rw [br_t1 hh]
      rcases b5 with ⟨rfl, z2, rfl, c4⟩ | ⟨rfl, j, z2, rfl⟩
      · rw [br_t1 rfl, bd_t (finds3 _)]
        exact ⟨_, rfl, hd3, Or.inr ⟨fun j _ => hno _, rfl, rfl⟩⟩
      · exact absurd z2.2.1 (hno _)
    rw [br_f1 hh]
    rcases b5 with ⟨rfl, z2, rfl, c4⟩ | ⟨rfl, j, z2, rfl⟩
    rotate_left
    · left
      rw [br_f1 (by decide), br_f1 (by decide)]
      exact ⟨_, rfl, hd3, Or.inl ⟨j, z2, rfl, rfl⟩⟩
    rw [br_t1 rfl, br_t1 rfl]
    by_cases hx : i = 99999
    · left
      subst hx
      rw [br_t1 (by decide), bd_t (finds3 _)]
      exact ⟨_, rfl, hd3, Or.inr ⟨c4, rfl, rfl⟩⟩
    right
    refine ⟨by omega, ?_⟩
    have hVs : VG (f.p30.setSg (1 + i)) := VG_Sg (VG_p30 hG) (by omega)
    have hMs : MF (f.p30.setSg (1 + i)) (upd d2 3 (nI (1 + i))) := MF_back (f := f.p30) hn hM3 b4 (1 + i)
    obtain ⟨⟨y9, vl', vk', vo', c, g, h, o⟩, hE, hE2⟩ := all8 hVs hMs hv vl vk vo c2 g2 h2 o2
    have hE3 : y9 = kI (okN f v (1 + i)) := hE2
    subst hE3
    have hd4 : ∀ j, j < 64 → j ≠ 3 → upd d2 (3 : Int32).toNatClampNeg (nI (1 + i)) j = d1 j := fun j hj e => (pk_un e).trans (b4 j hj e)
    rw [br_f1 (show ¬ (99999 : Int32) < nI (1 + i) from nI_nlt (a := 99999) (by omega) (by decide)), bd_t (show f_X8_isAllKept (nI v) vl vk vo (upd d2 (3 : Int32).toNatClampNeg (nI (1 + i))) c2 g2 h2 o2 = _ from hE)]
    dsimp only
    rw [br_kI]
    by_cases hq : okN f v (1 + i)
    · rw [br_t1 hq, kI_t hq, nm_q, Int32.add_zero]
      refine ⟨_, ?_, rfl⟩
      exact ⟨rfl, rfl, rfl, hd4, Or.inr ⟨rfl, i, ⟨by omega, hq, c4⟩, rfl⟩⟩
    · rw [br_f1 hq, kI_f hq, nm_q]
      refine ⟨_, ?_, rfl⟩
      exact ⟨rfl, rfl, rfl, hd4, Or.inl ⟨rfl, by omega, nI_1 _, not_s (P := fun i => okN f v (1 + i)) c4 hq⟩⟩
  · rintro u u2 h1 ⟨h2, h3⟩
    rcases srch_2 h1 h3 with ⟨j, -, ⟨e1, e2⟩, e3, e4⟩ | ⟨⟨e1, e2⟩, e3, e4⟩
    · rw [e2, e4]
      exact ⟨e1.trans e3.symm, ⟨f, hV, hC, MF_cong hn hM h2⟩, hI2, hT, hP, hS⟩
    · rw [e2, e4]
      exact ⟨e1.trans e3.symm, ⟨f, hV, hC, MF_cong hn hM h2⟩, hI2, RT_tell hT 3, hP, hS⟩
