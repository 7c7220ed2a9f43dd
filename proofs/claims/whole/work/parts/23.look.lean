/-! ===== an hour's flow: the reference ===== -/
theorem its_k {f : Fo} {d : Nat → Int32} (hM : MF f d) (hn : f.n ≤ 10) {b : Nat} (hb : b < f.n) : f_X8_its (nI b) (0 : Int32) d = some (nI (f.kd b)) ∧ f_X8_its (nI b) (1 : Int32) d = some (abI f.ab b) ∧ f_X8_its (nI b) (2 : Int32) d = some (nI (f.ed b)) ∧ f_X8_its (nI b) (3 : Int32) d = some (nI (f.po b)) ∧ f_X8_its (nI b) (4 : Int32) d = some (f.st b) := by
  obtain ⟨a1, a2, a3, a4, a5⟩ := hM.2.2.2.2.1 b hb
  exact ⟨(its_e (c := 0) (by omega) d).trans (congrArg some a1), (its_e (c := 1) (by omega) d).trans (congrArg some a2), (its_e (c := 2) (by omega) d).trans (congrArg some a3), (its_e (c := 3) (by omega) d).trans (congrArg some a4), (its_e (c := 4) (by omega) d).trans (congrArg some a5)⟩
theorem abI_eq {f : Fo} {o b : Nat} (hb : b < 10) (hab : 1 ≤ o → f.ab o < 10) : abI f.ab o = nI b ↔ 1 ≤ o ∧ f.ab o = b := by
  by_cases h0 : o = 0
  · subst h0
    rw [abI_0]
    constructor
    · intro h
      have := congrArg Int32.toInt h
      rw [nI_toInt (by omega), show (-1 : Int32).toInt = -1 from rfl] at this
      omega
    · intro h; omega
  · have := hab (by omega)
    rw [abI_s _ h0, nI_eq (by omega) (by omega)]
    constructor
    · intro h; exact ⟨by omega, h⟩
    · intro h; exact h.2
theorem wdP_0 {f : Fo} (hV : VG f) {b : Nat} : ∀ i, i ≤ b + 1 → i ≤ f.n → f.wdP i b = 0 := by
  intro i h1 h2
  exact sumN_zero.mpr (fun o ho => if_neg (fun c => by have := (hV.2.1 o (by omega)).2.2.2.2 c.1; omega))
theorem chP_0 {f : Fo} (hV : VG f) {b : Nat} : ∀ i, i ≤ b + 1 → i ≤ f.n → f.chP i b = 0 := by
  intro i h1 h2
  exact sumN_zero.mpr (fun o ho => if_neg (fun c => by have := (hV.2.1 o (by omega)).2.2.2.2 c.1; omega))
theorem edges_e {f : Fo} (hV : VG f) {d : Nat → Int32} (hM : MF f d) {b : Nat} (hb : b < f.n) : f_X8_edgesBelow (nI b) d = some (nI (f.wd b)) := by
  have hn := hV.1
  unfold f_X8_edgesBelow f_X8_edgesBelow_L6
  rw [nm_q, nI_1]
  refine lp_inv2 _ (fun i (s : Int32 × Int32) => s.2 = nI i ∧ s.1 = nI (f.wdP i b)) f.n (fun o => o = some (nI (f.wd b))) ?_ (f.n - (b + 1)) (b + 1) ((0 : Int32), nI (b + 1)) FU (Nat.le_refl _) (by omega) ⟨rfl, by rw [wdP_0 hV (b + 1) (Nat.le_refl _) (by omega)]; rfl⟩ (FU_gt (by omega))
  rintro i ⟨a, y⟩ hi ⟨h1, h2⟩ rc
  dsimp only at h1 h2
  subst h1 h2
  show f_X8_edgesBelow_L6_b (nI b) d rc (nI (f.wdP i b)) (nI i) = some (nI (f.wd b)) ∨ (i < f.n ∧ ∃ s', _ ∧ f_X8_edgesBelow_L6_b (nI b) d rc (nI (f.wdP i b)) (nI i) = rc s')
  unfold f_X8_edgesBelow_L6_b
  rw [show d (0 : Int32).toNatClampNeg = nI f.n from hM.1]
  by_cases h : i = f.n
  · left
    subst h
    exact br_t1 (nI_le (Nat.le_refl _) (by omega))
  · right
    have hi' : i < f.n := by omega
    refine ⟨hi', ?_⟩
    obtain ⟨-, hb2, he, -, -⟩ := its_k hM hn hi'
    have e1 : f.wdP (i + 1) b = f.wdP i b + (if 1 ≤ i ∧ f.ab i = b then f.ed i else 0) := rfl
    have hA : abI f.ab i = nI b ↔ 1 ≤ i ∧ f.ab i = b := abI_eq (by omega) (fun q => by have := (hV.2.1 i hi').2.2.2.2 q; omega)
    rw [br_f1 (nI_ge hi' (by omega)), bd_t hb2]
    by_cases hc : 1 ≤ i ∧ f.ab i = b
    · rw [br_t1 (hA.mpr hc), bd_t he, nm_q]
      exact ⟨_, ⟨nI_1 i, by dsimp only; rw [e1, if_pos hc, nI_add]⟩, rfl⟩
    · rw [br_f1 (fun q => hc (hA.mp q)), nm_q]
      exact ⟨_, ⟨nI_1 i, by dsimp only; rw [e1, if_neg hc, Int32.add_zero, Nat.add_zero]⟩, rfl⟩
/-- what came is right for those whose one above has been gone through -/
def okC (f : Fo) (i : Nat) (came : Nat → Int32) : Prop := ∀ o, o < f.n → (o = 0 ∨ f.ab o < i) → came o = nI (f.cm o)
theorem look_e {f : Fo} (hV : VG f) {d : Nat → Int32} (hM : MF f d) (vl vk vo : Int32) (came got held off : Nat → Int32) :
    ∃ c g h o : Nat → Int32, f_X8_look vl vk vo d came got held off = some (nI f.lkS, nI f.kpS, nI f.roS, c, g, h, o) ∧
      ∀ b, b < f.n → c b = nI (f.cm b) ∧ g b = nI (f.kp b) ∧ h b = nI (f.hd b) ∧ o b = nI (f.off b) := by
  have hn := hV.1
  unfold f_X8_look f_X8_look_L17
  refine lp_go2 _ (fun i (s : Int32 × Int32 × Int32 × Int32 × (Nat → Int32) × (Nat → Int32) × (Nat → Int32) × (Nat → Int32)) => s.1 = nI i ∧ s.2.1 = 0 ∧ s.2.2.1 = 0 ∧ s.2.2.2.1 = 0 ∧ (0 < i → s.2.2.2.2.1 0 = nI f.sg)) 10
    (fun r => ∃ c g h o : Nat → Int32, r = some (nI f.lkS, nI f.kpS, nI f.roS, c, g, h, o) ∧ ∀ b, b < f.n → c b = nI (f.cm b) ∧ g b = nI (f.kp b) ∧ h b = nI (f.hd b) ∧ o b = nI (f.off b))
    ?_ ((0 : Int32), (0 : Int32), (0 : Int32), (0 : Int32), came, got, held, off) ⟨rfl, rfl, rfl, rfl, fun q => absurd q (by omega)⟩ (FU_gt (by decide))
  rintro i ⟨y, vl, vk, vo, came, got, held, off⟩ hi ⟨h1, h2, h3, h4, h5⟩ rc
  dsimp only at h1 h2 h3 h4 h5
  subst h1 h2 h3 h4
  show (∃ c g h o : Nat → Int32, f_X8_look_L17_b d rc (nI i) 0 0 0 came got held off = some _ ∧ _) ∨ (i < 10 ∧ ∃ s', _ ∧ f_X8_look_L17_b d rc (nI i) 0 0 0 came got held off = rc s')
  unfold f_X8_look_L17_b
  by_cases hx : i = 10
  · left
    subst hx
    rw [br_t1 (show (10 : Int32) ≤ nI 10 by decide)]
    have h50 := h5 (by decide)
    clear h5 rc
    unfold f_X8_look_L51
    refine lp_go2 _ (fun i (s : Int32 × Int32 × Int32 × Int32 × (Nat → Int32) × (Nat → Int32) × (Nat → Int32) × (Nat → Int32)) => s.1 = nI i ∧ s.2.1 = nI (sumN f.lk i) ∧ s.2.2.1 = nI (sumN f.kp i) ∧ s.2.2.2.1 = nI (sumN f.off i) ∧ okC f i s.2.2.2.2.1 ∧ ∀ b, b < i → s.2.2.2.2.2.1 b = nI (f.kp b) ∧ s.2.2.2.2.2.2.1 b = nI (f.hd b) ∧ s.2.2.2.2.2.2.2 b = nI (f.off b)) f.n
      (fun r => ∃ c g h o : Nat → Int32, r = some (nI f.lkS, nI f.kpS, nI f.roS, c, g, h, o) ∧ ∀ b, b < f.n → c b = nI (f.cm b) ∧ g b = nI (f.kp b) ∧ h b = nI (f.hd b) ∧ o b = nI (f.off b))
      ?_ ((0 : Int32), (0 : Int32), (0 : Int32), (0 : Int32), came, got, held, off) ⟨rfl, rfl, rfl, rfl, fun o ho q => by
        rcases q with rfl | q
        · show came 0 = _; rw [h50, cm_0]
        · omega, fun b hb => absurd hb (by omega)⟩ (FU_gt (by omega))
    rintro i ⟨y, vl, vk, vo, c0, g0, h0, o0⟩ hi ⟨h1, h2, h3, h4, h5, h6⟩ rc
    dsimp only at h1 h2 h3 h4 h5 h6
    subst h1 h2 h3 h4
    show (∃ c g h o : Nat → Int32, f_X8_look_L51_b d rc (nI i) _ _ _ c0 g0 h0 o0 = some _ ∧ _) ∨ (i < f.n ∧ ∃ s', _ ∧ f_X8_look_L51_b d rc (nI i) _ _ _ c0 g0 h0 o0 = rc s')
    unfold f_X8_look_L51_b
    rw [show d (0 : Int32).toNatClampNeg = nI f.n from hM.1]
    by_cases hin : i = f.n
    · left
      subst hin
      exact ⟨c0, g0, h0, o0, br_t1 (nI_le (Nat.le_refl _) (by omega)), fun b hb => ⟨h5 b hb ((Decidable.em (b = 0)).elim Or.inl (fun q => Or.inr (by have := (hV.2.1 b hb).2.2.2.2 (by omega); omega))), h6 b hb⟩⟩
    · right
      have hi' : i < f.n := by omega
      refine ⟨hi', ?_⟩
      obtain ⟨hk6, -, -, hp, hab⟩ := hV.2.1 i hi'
      obtain ⟨hk, -, -, hpo, -⟩ := its_k hM hn hi'
      have hcm : c0 i = nI (f.cm i) := h5 i hi' ((Decidable.em (i = 0)).elim Or.inl (fun q => Or.inr (hab (by omega))))
      have hc5 := cm_5 hV hi'
      have e1 : f.lk i ≤ f.cm i := kLeak_le _ _
      have e2 : f.kp i ≤ f.cm i - f.lk i := kKeep_le _ _
      have e3 : f.hd i ≤ f.cm i - f.lk i - f.kp i := kHold_le _ _ _
      have hwd : f.wd i ≤ 90 := wd_le hV f.n i (Nat.le_refl _)
      have v : vp_in (nI i) 10 := vp_in_nI (by omega) (by decide)
      rw [br_f1 (nI_ge hi' (by omega)), bd_t hk, gd_t v, nm_q, nI_clamp (by omega), hcm, bd_t (leaks8 hk6 (by omega)), show nI (kLeak (f.kd i) (f.cm i)) = nI (f.lk i) from rfl, pk_sub e1, bd_t (keeps8 hk6 (by omega)), show nI (kKeep (f.kd i) (f.cm i - f.lk i)) = nI (f.kp i) from rfl, gd_t v, gd_t v, nm_q, pk_us, pk_sub e2, bd_t hpo, bd_t (holds8 hk6 (by omega) hp), show nI (kHold (f.kd i) (f.cm i - f.lk i - f.kp i) (f.po i)) = nI (f.hd i) from rfl, gd_t v, gd_t v, nm_q, pk_us, pk_sub e3, bd_t (edges_e hV hM hi'), nm_q, nI_1, show nI (f.cm i - f.lk i - f.kp i - f.hd i) = nI (f.go i) from rfl]
      unfold f_X8_look_L154
      refine lp_inv2 _ (fun j (s : Int32 × Int32 × Int32 × Int32 × Int32 × Int32 × Int32 × Int32 × Int32 × (Nat → Int32) × (Nat → Int32) × (Nat → Int32) × (Nat → Int32)) =>
          s.1 = nI i ∧ s.2.1 = nI (f.lk i) ∧ s.2.2.1 = nI (f.go i) ∧ s.2.2.2.1 = nI (f.wd i) ∧ s.2.2.2.2.1 = nI (f.go i) - nI (f.chP j i) ∧ s.2.2.2.2.2.1 = nI j ∧ s.2.2.2.2.2.2.1 = nI (sumN f.lk i) ∧ s.2.2.2.2.2.2.2.1 = nI (sumN f.kp i) ∧ s.2.2.2.2.2.2.2.2.1 = nI (sumN f.off i) ∧
          (∀ o, o < f.n → (o = 0 ∨ f.ab o < i ∨ (o < j ∧ f.ab o ≤ i)) → s.2.2.2.2.2.2.2.2.2.1 o = nI (f.cm o)) ∧ s.2.2.2.2.2.2.2.2.2.2.1 = upd g0 i (nI (f.kp i)) ∧ s.2.2.2.2.2.2.2.2.2.2.2.1 = upd h0 i (nI (f.hd i)) ∧ s.2.2.2.2.2.2.2.2.2.2.2.2 = o0) f.n
        (fun r => ∃ s' : Int32 × Int32 × Int32 × Int32 × (Nat → Int32) × (Nat → Int32) × (Nat → Int32) × (Nat → Int32), (s'.1 = nI (i + 1) ∧ s'.2.1 = nI (sumN f.lk (i + 1)) ∧ s'.2.2.1 = nI (sumN f.kp (i + 1)) ∧ s'.2.2.2.1 = nI (sumN f.off (i + 1)) ∧ okC f (i + 1) s'.2.2.2.2.1 ∧ ∀ b, b < i + 1 → s'.2.2.2.2.2.1 b = nI (f.kp b) ∧ s'.2.2.2.2.2.2.1 b = nI (f.hd b) ∧ s'.2.2.2.2.2.2.2 b = nI (f.off b)) ∧ r = rc s')
        ?_ (f.n - (i + 1)) (i + 1) _ FU (Nat.le_refl _) (by omega) ⟨rfl, rfl, rfl, rfl, by rw [chP_0 hV (i + 1) (Nat.le_refl _) (by omega)]; exact (Int32.sub_zero _).symm, rfl, rfl, rfl, rfl, fun o ho q => by
          refine h5 o ho ?_
          rcases q with q | q | ⟨q, q2⟩
          · exact Or.inl q
          · exact Or.inr q
          · by_cases q0 : o = 0
            · exact Or.inl q0
            · exact Or.inr (by have := (hV.2.1 o ho).2.2.2.2 (by omega); omega), rfl, rfl, rfl⟩ (FU_gt (by omega))
      rintro j ⟨y1, y4, y6, y7, y8, y9, vl, vk, vo, c1, g1, h1, o1⟩ hj ⟨a1, a2, a3, a4, a5, a6, a7, a8, a9, a10, a11, a12, a13⟩ rc2
      dsimp only at a1 a2 a3 a4 a5 a6 a7 a8 a9 a10 a11 a12 a13
      subst a1 a2 a3 a4 a5 a6 a7 a8 a9 a11 a12 a13
      show (∃ s', _ ∧ f_X8_look_L154_b d rc rc2 (nI i) (nI (f.lk i)) (nI (f.go i)) (nI (f.wd i)) _ (nI j) _ _ _ c1 _ _ o1 = rc s') ∨ (j < f.n ∧ ∃ s', _ ∧ f_X8_look_L154_b d rc rc2 (nI i) (nI (f.lk i)) (nI (f.go i)) (nI (f.wd i)) _ (nI j) _ _ _ c1 _ _ o1 = rc2 s')
      unfold f_X8_look_L154_b
      rw [show d (0 : Int32).toNatClampNeg = nI f.n from hM.1]
      by_cases hjn : j = f.n
      · left
        subst hjn
        rw [br_t1 (nI_le (Nat.le_refl _) (by omega))]
        unfold f_X8_look_J218
        dsimp only
        rw [gd_t v, gd_t v, nI_clamp (by omega), pk_us]
        have ho : nI (f.go i) - nI (f.chP f.n i) = nI (f.off i) := pk_sub (ch_le hV i)
        refine ⟨_, ⟨nI_1 i, ?_, ?_, ?_, ?_, fun b hb => ?_⟩, rfl⟩
        · dsimp only; rw [sumN, nI_add]
        · dsimp only; rw [sumN, nI_add]
        · dsimp only; rw [sumN, ho, nI_add]
        · intro o hon q
          refine a10 o hon ?_
          rcases q with q | q
          · exact Or.inl q
          · exact Or.inr (Or.inr ⟨hon, by omega⟩)
        · dsimp only
          by_cases e : b = i
          · rw [e, pk_us, pk_us, pk_us]; exact ⟨rfl, rfl, ho⟩
          · rw [pk_un e, pk_un e, pk_un e]; exact h6 b (by omega)
      · right
        have hj' : j < f.n := by omega
        refine ⟨hj', ?_⟩
        obtain ⟨-, hb2, he, -, -⟩ := its_k hM hn hj'
        have e1 : f.chP (j + 1) i = f.chP j i + (if 1 ≤ j ∧ f.ab j = i then f.cm j else 0) := rfl
        have hA : abI f.ab j = nI i ↔ 1 ≤ j ∧ f.ab j = i := abI_eq (by omega) (fun q => by have := (hV.2.1 j hj').2.2.2.2 q; omega)
        rw [br_f1 (nI_ge hj' (by omega)), bd_t hb2]
        by_cases hc : 1 ≤ j ∧ f.ab j = i
        · have hw := wd_ge (f := f) hc.1 hj'
          rw [hc.2] at hw
          obtain ⟨-, hd1, hd9, -, -⟩ := hV.2.1 j hj'
          have hgo := go_5 hV hi'
          have hm : f.go i * f.ed j ≤ 99999 * 9 := Nat.mul_le_mul hgo hd9
          have hcmj : f.cm j = f.go i * f.ed j / f.wd i := by
            have := cm_s hc.1 (show f.ab j < j from (hV.2.1 j hj').2.2.2.2 hc.1)
            rw [hc.2] at this
            exact this
          have hq : ((nI (f.go i)).toInt64 * (nI (f.ed j)).toInt64 / (nI (f.wd i)).toInt64).toInt32 = nI (f.cm j) := by
            rw [nI_l (by omega), nI_l (by omega), nI_l (by omega), lN_mul, pk_lDiv (by omega) (by omega) (by omega), lN_i, hcmj]
          have hw0 : ¬ (nI (f.wd i)).toInt64 = 0 := by
            rw [nI_l (by omega)]
            exact fun q => absurd ((lN_eq (b := 0) (by omega) (by decide)).mp q) (by omega)
          have v2 : vp_in (nI j) 10 := vp_in_nI (by omega) (by decide)
          rw [br_t1 (hA.mpr hc), bd_t he, gd_t hw0, gd_t v2, gd_t v2, nm_q, hq, nI_clamp (by omega), pk_us]
          refine ⟨_, ⟨rfl, rfl, rfl, rfl, ?_, nI_1 j, rfl, rfl, rfl, fun o ho q => ?_, rfl, rfl, rfl⟩, rfl⟩
          · dsimp only; rw [e1, if_pos hc, ← nI_add]; grind
          · dsimp only
            by_cases eo : o = j
            · rw [eo, pk_us]
            · rw [pk_un eo]
              refine a10 o ho ?_
              rcases q with q | q | ⟨q, q2⟩
              · exact Or.inl q
              · exact Or.inr (Or.inl q)
              · exact Or.inr (Or.inr ⟨by omega, q2⟩)
        · rw [br_f1 (fun q => hc (hA.mp q))]
          refine ⟨_, ⟨rfl, rfl, rfl, rfl, ?_, nI_1 j, rfl, rfl, rfl, fun o ho q => ?_, rfl, rfl, rfl⟩, rfl⟩
          · dsimp only; rw [e1, if_neg hc, Nat.add_zero]
          · dsimp only
            refine a10 o ho ?_
            rcases q with q | q | ⟨q, q2⟩
            · exact Or.inl q
            · exact Or.inr (Or.inl q)
            · by_cases eo : o = j
              · subst eo
                by_cases q0 : o = 0
                · exact Or.inl q0
                · exact Or.inr (Or.inl (by have : ¬ f.ab o = i := fun z => hc ⟨by omega, z⟩; omega))
              · exact Or.inr (Or.inr ⟨by omega, q2⟩)
  · right
    refine ⟨by omega, ?_⟩
    have v : vp_in (nI i) 10 := vp_in_nI (by omega) (by decide)
    rw [br_f1 (show ¬ (10 : Int32) ≤ nI i from nI_ge (b := 10) (by omega) (by decide))]
    by_cases h0 : i = 0
    · subst h0
      rw [br_t1 (show nI 0 = (0 : Int32) from rfl), gd_t v]
      exact ⟨_, ⟨nI_1 0, rfl, rfl, rfl, fun _ => hM.2.2.2.1⟩, rfl⟩
    · rw [br_f1 (nI_ne 0 0 h0), gd_t v, nI_clamp (by omega)]
      refine ⟨_, ⟨nI_1 i, rfl, rfl, rfl, fun _ => ?_⟩, rfl⟩
      show upd came i 0 0 = nI f.sg
      rw [pk_un (by omega)]
      exact h5 (by omega)
