/-! ===== cases share, rest, compare, extreme, loses ===== -/
theorem keptOf_n {k : Nat} {c : Nat × Nat} (h : bigF (lF k c) ∨ bigF (kF k c)) : keptOf k (some c) = none := by
  unfold keptOf leftOf
  show (chk (lF k c)).bind _ = none
  by_cases h1 : bigF (lF k c)
  · rw [chk_f h1]; rfl
  · rw [chk_t h1]
    exact chk_f (h.resolve_left h1)
theorem keptOf_t {k : Nat} {c : Nat × Nat} (h : ¬ (bigF (lF k c) ∨ bigF (kF k c))) : keptOf k (some c) = some (kF k c) := by
  unfold keptOf leftOf
  show (chk (lF k c)).bind _ = some (kF k c)
  rw [chk_t (fun q => h (Or.inl q))]
  exact chk_t (fun q => h (Or.inr q))
theorem onOf_n {k : Nat} {c : Nat × Nat} (h : (bigF (lF k c) ∨ bigF (kF k c)) ∨ bigF (gF k c)) : onOf k (some c) = none := by
  unfold onOf
  by_cases h1 : bigF (lF k c) ∨ bigF (kF k c)
  · rw [keptOf_n h1]; rfl
  · rw [keptOf_t h1]
    show (leftOf k (some c)).bind _ = none
    unfold leftOf
    show (chk (lF k c)).bind _ = none
    rw [chk_t (fun q => h1 (Or.inl q))]
    exact chk_f (h.resolve_left h1)
theorem onOf_t {k : Nat} {c : Nat × Nat} (h : ¬ ((bigF (lF k c) ∨ bigF (kF k c)) ∨ bigF (gF k c))) : onOf k (some c) = some (gF k c) := by
  unfold onOf
  rw [keptOf_t (fun q => h (Or.inl q))]
  show (leftOf k (some c)).bind _ = some (gF k c)
  unfold leftOf
  show (chk (lF k c)).bind _ = some (gF k c)
  rw [chk_t (fun q => h (Or.inl (Or.inl q)))]
  exact chk_t (fun q => h (Or.inr q))
/-- the way up from a basin -/
def Fo.an (f : Fo) (b : Nat) : Nat → Nat
  | 0 => b
  | k + 1 => f.ab (Fo.an f b k)
theorem none_down {f : Fo} (hV : VG f) {b : Nat} (hb : b < f.n) : ∀ k, (∀ i, i < k → 1 ≤ f.an b i) → (∀ i, i ≤ k → f.an b i ≤ b) → f.comeF (f.an b k) = none → f.comeF b = none
  | 0, _, _, h => h
  | k + 1, h1, h2, h => by
    refine none_down hV hb k (fun i hi => h1 i (by omega)) (fun i hi => h2 i (by omega)) ?_
    have hk := h1 k (by omega)
    have hkb := h2 k (by omega)
    have ha := (hV.2.1 (f.an b k) (by omega)).2.2.2.2 hk
    rw [comeF_s hk ha]
    have e : f.onF (f.ab (f.an b k)) = none := by
      have h' : f.comeF (f.ab (f.an b k)) = none := h
      unfold Fo.onF
      rw [h']
      rfl
    rw [e]
    rfl
theorem lt_m1 {m : Nat} (hm : m < 2 ^ 30) : nI (m + 1) - (2 : Int32) = nI m - 1 := by
  rw [← nI_1]
  grind
theorem way8 {f : Fo} (hV : VG f) {d : Nat → Int32} (hM : MF f d) {b : Nat} (hb : b < f.n) (up dn su sd ou od : Int64) (gr : Int32) (path : Nat → Int32) (cu cd : Nat → Int64) :
    ∃ u, f_X8_wayTo (nI b) up dn su sd ou od gr path cu cd d = some u ∧ ((u.2.2.2.2.2.2.1 = 1 ∧ f.comeF b = none) ∨ (u.2.2.2.2.2.2.1 = 0 ∧ ∃ c, f.comeF b = some c ∧ u.2.2.2.2.2.2.2.2.1 b = lN c.1 ∧ u.2.2.2.2.2.2.2.2.2 b = lN c.2)) := by
  have hn := hV.1
  unfold f_X8_wayTo f_X8_wayTo_L9
  refine lp_go3 (b + 1) (fun i s => s.1 = nI i ∧ s.2.2.2.2.2.2.2.2.1 = 0 ∧ (∀ k, k < i → s.2.2.2.2.2.2.2.2.2.1 k = nI (f.an b k) ∧ f.an b k ≤ b) ∧ ((s.2.1 = nI (f.an b i) ∧ f.an b i + i ≤ b ∧ ∀ k, k < i → 1 ≤ f.an b k) ∨ (s.2.1 = -1 ∧ ∃ m, i = m + 1 ∧ f.an b m = 0 ∧ ∀ k, k < m → 1 ≤ f.an b k))) ⟨rfl, rfl, fun k hk => absurd hk (by omega), Or.inl ⟨rfl, Nat.le_refl _, fun k hk => absurd hk (by omega)⟩⟩ (FU_gt (by omega)) ?_
  rintro i ⟨y2, y3, up, dn, su, sd, ou, od, gr, pa, cu, cd⟩ hi ⟨a1, a2, a3, a4⟩ rc
  dsimp only at a1 a2 a3 a4 ⊢
  subst a1 a2
  unfold f_X8_wayTo_L9_b
  rcases a4 with ⟨rfl, a5, a6⟩ | ⟨rfl, m, rfl, a6, a7⟩
  · right
    have hin : f.an b i < f.n := by omega
    refine ⟨by omega, ?_⟩
    rw [br_f1 (nI_pos (by omega)), gd_t (vp_in_nI (by omega) (by decide)), bd_t (its_k hM hn hin).2.1, nI_clamp (by omega)]
    refine ⟨_, ?_, rfl⟩
    refine ⟨nI_1 i, rfl, fun k hk => ?_, ?_⟩
    · dsimp only
      by_cases e : k = i
      · rw [e, pk_us]; exact ⟨rfl, by omega⟩
      · rw [pk_un e]; exact a3 k (by omega)
    · by_cases h0 : f.an b i = 0
      · right
        dsimp only
        rw [h0]
        exact ⟨abI_0 _, i, rfl, h0, a6⟩
      · left
        have hlt := (hV.2.1 _ hin).2.2.2.2 (by omega)
        have e1 : f.an b (i + 1) = f.ab (f.an b i) := rfl
        refine ⟨(abI_s _ h0).trans rfl, by omega, fun k hk => ?_⟩
        by_cases e : k = i
        · rw [e]; omega
        · exact a6 k (by omega)
  · left
    rw [br_t1 (by decide)]
    unfold f_X8_wayTo_J33
    rw [lt_m1 (by omega), nm_q]
    have hpa : ∀ k, k ≤ m → pa k = nI (f.an b k) ∧ f.an b k ≤ b := fun k hk => a3 k (by omega)
    clear a3 rc
    unfold f_X8_wayTo_L51
    refine lp_go3 m (fun j s => s.1 = nI (m - j) - 1 ∧ s.2.2.2.2.2.2.2.2.1 = pa ∧ ((s.2.2.2.2.2.2.2.1 = 1 ∧ f.comeF b = none) ∨ (s.2.2.2.2.2.2.2.1 = 0 ∧ ∃ c, f.comeF (f.an b (m - j)) = some c ∧ s.2.2.2.2.2.2.2.2.2.1 (f.an b (m - j)) = lN c.1 ∧ s.2.2.2.2.2.2.2.2.2.2 (f.an b (m - j)) = lN c.2))) ⟨rfl, rfl, Or.inr ⟨rfl, (1, 1), ?_, ?_, ?_⟩⟩ (FU_gt (by omega)) ?_
    · rw [show m - 0 = m from rfl, a6, comeF_0]
    · rw [show m - 0 = m from rfl, a6]
      show vp_updL cu 0 1 0 = 1
      exact pk_uLs
    · rw [show m - 0 = m from rfl, a6]
      show vp_updL cd 0 1 0 = 1
      exact pk_uLs
    rintro j ⟨y3, up, dn, su, sd, ou, od, gr, pa', cu, cd⟩ hj ⟨b1, b2, b3⟩ rd
    dsimp only at b1 b2 b3 ⊢
    subst b1 b2
    unfold f_X8_wayTo_L51_b
    by_cases hx : j = m
    · left
      subst hx
      rw [Nat.sub_self, br_t1 (by decide)]
      refine ⟨_, rfl, ?_⟩
      rw [Nat.sub_self] at b3
      exact b3
    · have e1 : nI (m - j) - (1 : Int32) = nI (m - (j + 1)) := (pk_sub (b := 1) (by omega)).trans (congrArg nI (by omega))
      have e2 : nI (m - (j + 1)) + 1 = nI (m - j) := (nI_1 _).trans (congrArg nI (by omega))
      rw [e1, e2, br_f1 (nI_pos (by omega))]
      rcases b3 with ⟨rfl, b4⟩ | ⟨rfl, c, b4, b5, b6⟩
      · left
        rw [br_f1 (by decide)]
        exact ⟨_, rfl, Or.inl ⟨rfl, b4⟩⟩
      · obtain ⟨p1, p2⟩ := hpa (m - (j + 1)) (by omega)
        obtain ⟨p3, p4⟩ := hpa (m - j) (by omega)
        have han : f.ab (f.an b (m - (j + 1))) = f.an b (m - j) := by
          have : f.an b (m - (j + 1) + 1) = f.ab (f.an b (m - (j + 1))) := rfl
          rw [← this, show m - (j + 1) + 1 = m - j by omega]
        have hpos := a7 (m - (j + 1)) (by omega)
        generalize ho : f.an b (m - (j + 1)) = o at *
        generalize ha : f.an b (m - j) = a at *
        have hon : o < f.n := by omega
        have hann : a < f.n := by omega
        have hlt : f.ab o < o := (hV.2.1 o hon).2.2.2.2 hpos
        have hcv := come_v hV a hann c b4
        have hdown : f.comeF o = none → f.comeF b = none := fun h => none_down hV hb (m - (j + 1)) (fun i hi => a7 i (by omega)) (fun i hi => (hpa i (by omega)).2) (by rw [ho]; exact h)
        have hco : f.comeF o = (f.onF a).bind (fun r => chk (mulF r (f.ed o, f.wd a))) := by
          have h := comeF_s hpos hlt
          rw [han] at h
          exact h
        have hSh := share8_e hV hM hann hcv b5 b6 True up dn su sd ou od
        rw [kI_t (p := True) trivial, br_t1 trivial] at hSh
        rw [br_t1 rfl, gd_t (vp_in_nI (show m - (j + 1) < 10 by omega) (by decide)), nm_q, gd_t (vp_in_nI (show m - j < 10 by omega) (by decide)), nm_q, nI_clamp (show m - (j + 1) < 2 ^ 31 by omega), nI_clamp (show m - j < 2 ^ 31 by omega), p1, p3, bd_t hSh]
        dsimp only
        rw [br_kI]
        by_cases hP : (bigF (lF (f.kd a) c) ∨ bigF (kF (f.kd a) c)) ∨ bigF (gF (f.kd a) c)
        · left
          rw [br_t1 hP, kI_t hP]
          refine ⟨_, rfl, Or.inl ⟨rfl, hdown ?_⟩⟩
          rw [hco]
          unfold Fo.onF
          rw [b4, onOf_n hP]
          rfl
        · right
          refine ⟨by omega, ?_⟩
          have hOn : f.onF a = some (gF (f.kd a) c) := by
            unfold Fo.onF
            rw [b4, onOf_t hP]
          have hgv := on_v2 hV hann hOn
          obtain ⟨-, he1, he9, -, -⟩ := hV.2.1 o hon
          have hwd := wd_ge (f := f) (b := o) hpos hon
          rw [han] at hwd
          have hw9 : f.wd a ≤ 90 := wd_le hV f.n a (Nat.le_refl _)
          have g1 := hgv.2.1
          have g2 := hgv.2.2
          have hT := times8_e (p := (gF (f.kd a) c).1) (q := (gF (f.kd a) c).2) (x := f.ed o) (y := f.wd a) hgv.1 (by omega) (by omega) (by omega) (by omega) hw9 (X := (nI (f.ed o)).toInt64) (Y := (nI (f.wd a)).toInt64) (nI_l (by omega)) (nI_l (by omega)) ((bigF (lF (f.kd a) c) ∨ bigF (kF (f.kd a) c)) ∨ bigF (gF (f.kd a) c)) (lN (gF (f.kd a) c).1) (lN (gF (f.kd a) c).2)
          rw [br_f1 hP, bd_t (its_k hM hn hon).2.2.1, bd_t (edges_e hV hM hann), bd_t hT]
          dsimp only
          have vo : vp_in (nI o) 10 := vp_in_nI (by omega) (by decide)
          rw [gd_t vo, gd_t vo, nI_clamp (show o < 2 ^ 31 by omega)]
          refine ⟨_, ?_, rfl⟩
          refine ⟨(Int32.sub_eq_add_neg _ _).symm, rfl, ?_⟩
          dsimp only
          rw [hOn] at hco
          have hco2 : f.comeF o = chk (mulF (gF (f.kd a) c) (f.ed o, f.wd a)) := hco
          by_cases hb2 : bigF (mulF (gF (f.kd a) c) (f.ed o, f.wd a))
          · left
            rw [chk_f hb2] at hco2
            exact ⟨kI_t (Or.inr hb2), hdown hco2⟩
          · right
            rw [chk_t hb2] at hco2
            refine ⟨kI_f (fun z => z.elim hP hb2), mulF (gF (f.kd a) c) (f.ed o, f.wd a), ?_, ?_, ?_⟩
            · exact hco2
            · exact pk_uLs
            · exact pk_uLs
theorem isShare8 {f : Fo} (hV : VG f) {d : Nat → Int32} (hM : MF f d) {b : Nat} (hb : b < f.n) (up dn su sd ou od : Int64) (gr : Int32) (path : Nat → Int32) (cu cd : Nat → Int64) :
    ∃ u, f_X8_isShare (nI b) up dn su sd ou od gr path cu cd d = some u ∧ ((u.1 = 0 ∧ f.keptF b = none) ∨ (u.1 = 1 ∧ ∃ r, f.keptF b = some r ∧ vF r ∧ u.2.2.2.1 = lN r.1 ∧ u.2.2.2.2.1 = lN r.2)) := by
  obtain ⟨⟨w1, w2, w3, w4, w5, w6, w7, w8, w9, w10⟩, hW, hWv⟩ := way8 hV hM hb up dn su sd ou od gr path cu cd
  dsimp only at hWv
  unfold f_X8_isShare
  rw [bd_t hW]
  dsimp only
  rcases hWv with ⟨rfl, h2⟩ | ⟨rfl, c, h2, h3, h4⟩
  · rw [br_f1 (by decide), br_f1 (by decide)]
    refine ⟨_, rfl, Or.inl ⟨rfl, ?_⟩⟩
    unfold Fo.keptF
    rw [h2]
    rfl
  · have hcv := come_v hV b hb c h2
    have hSh := share8_e hV hM hb hcv h3 h4 False w1 w2 w3 w4 w5 w6
    rw [kI_f (p := False) (fun z => z), br_f1 (fun z => z)] at hSh
    rw [br_t1 rfl, bd_t hSh]
    dsimp only
    rw [br_kI]
    by_cases hP : bigF (lF (f.kd b) c) ∨ bigF (kF (f.kd b) c)
    · rw [br_t1 hP]
      refine ⟨_, rfl, Or.inl ⟨rfl, ?_⟩⟩
      unfold Fo.keptF
      rw [h2, keptOf_n hP]
    · rw [br_f1 hP]
      have hk : f.keptF b = some (kF (f.kd b) c) := by
        unfold Fo.keptF
        rw [h2, keptOf_t hP]
      exact ⟨_, rfl, Or.inr ⟨rfl, _, hk, kept_v2 hV hb hk, rfl, rfl⟩⟩
theorem rest8 {f : Fo} (hV : VG f) {d : Nat → Int32} (hM : MF f d) {b : Nat} (hb : b < f.n) {cu cd : Nat → Int64} {c : Nat × Nat} (h2 : f.comeF b = some c) (h3 : cu b = lN c.1) (h4 : cd b = lN c.2) (up dn su sd ou od : Int64) :
    ∃ u, f_X8_shareOf (nI b) 1 up dn su sd ou od 0 d cu cd = some u ∧ ((u.2.2.2.2.2.2 = 1 ∧ f.onF b = none) ∨ (u.2.2.2.2.2.2 = 0 ∧ ∃ r, f.onF b = some r ∧ u.2.2.2.2.1 = lN r.1 ∧ u.2.2.2.2.2.1 = lN r.2)) := by
  have hcv := come_v hV b hb c h2
  have hSh := share8_e hV hM hb hcv h3 h4 True up dn su sd ou od
  rw [kI_t (p := True) trivial, br_t1 trivial] at hSh
  refine ⟨_, hSh, ?_⟩
  dsimp only
  by_cases hP : (bigF (lF (f.kd b) c) ∨ bigF (kF (f.kd b) c)) ∨ bigF (gF (f.kd b) c)
  · refine Or.inl ⟨kI_t hP, ?_⟩
    unfold Fo.onF
    rw [h2, onOf_n hP]
  · refine Or.inr ⟨kI_f hP, _, ?_, rfl, rfl⟩
    unfold Fo.onF
    rw [h2, onOf_t hP]
theorem L_share (x1 x2 : Int32) (cT_present_kind : Nat → Int32) (cT_present_above : Nat → Int32) (cT_present_edge : Nat → Int32) (cT_present_pool : Nat → Int32) (cT_present_store : Nat → Int32) (cT_present_spot : Nat → Int32) (vT_present_basins : Int32) (vT_present_spring : Int32) (vT_present_hour : Int32) (vT_present_z : Int32) (vT_pictured : Int32) (cT_picture_kind : Nat → Int32) (cT_picture_above : Nat → Int32) (cT_picture_edge : Nat → Int32) (cT_picture_pool : Nat → Int32) (cT_picture_store : Nat → Int32) (cT_picture_spot : Nat → Int32) (vT_picture_basins : Int32) (vT_picture_spring : Int32) (vT_picture_hour : Int32) (vT_picture_z : Int32) (cT_told : Nat → Int32) (cT_tape_bytes : Nat → Int32) (vT_tape_size : Int32) (vT_sheets_bits : Nat → Int32) (vT_sheets_size : Nat → Int32) (cT_sheets_numbers : Nat → Nat → Int32) (cM_d : Nat → Int32) (vM_isKept : Int32) (cM_kept : Nat → Int32) (cM_found : Nat → Int32) (cM_tape : Nat → Int32) (vM_taped : Int32) (cM_bitsOf : Nat → Int32) (cM_sizeOf : Nat → Int32) (cM_number : Nat → Int32) (vT_shares_top : Int64) (vT_shares_bottom : Int64) (cT_shares_onTop : Nat → Int64) (cT_shares_onBottom : Nat → Int64) (cT_shares_onFits : Nat → Int32) (cT_shares_keptTop : Nat → Int64) (cT_shares_keptBottom : Nat → Int64) (cT_shares_keptFits : Nat → Int32) (vM_up : Int64) (vM_down : Int64) (vM_sharesUp : Int64) (vM_sharesDown : Int64) (vM_onUp : Int64) (vM_onDown : Int64) (vM_great : Int32) (cM_path : Nat → Int32) (cM_comesUp : Nat → Int64) (cM_comesDown : Nat → Int64) (hI : Inv cT_present_kind cT_present_above cT_present_edge cT_present_pool cT_present_store cT_present_spot vT_present_basins vT_present_spring vT_present_hour vT_present_z vT_pictured cT_picture_kind cT_picture_above cT_picture_edge cT_picture_pool cT_picture_store cT_picture_spot vT_picture_basins vT_picture_spring vT_picture_hour vT_picture_z cT_told cT_tape_bytes vT_tape_size vT_sheets_bits vT_sheets_size cT_sheets_numbers cM_d vM_isKept cM_kept cM_found cM_tape vM_taped cM_bitsOf cM_sizeOf cM_number) : ∃ (u : Int64 × (Nat → Int32) × Int64 × Int64 × (Nat → Int64) × (Nat → Int64) × (Nat → Int32) × (Nat → Int64) × (Nat → Int64) × (Nat → Int32)) (v : Int64 × Int64 × Int64 × Int64 × Int64 × Int64 × Int64 × Int32 × (Nat → Int32) × (Nat → Int32) × (Nat → Int64) × (Nat → Int64)), f_X7_share x1 x2 vT_present_basins cT_told vT_shares_top vT_shares_bottom cT_present_above cT_shares_onTop cT_shares_onBottom cT_shares_onFits cT_present_edge cT_present_kind cT_shares_keptTop cT_shares_keptBottom cT_shares_keptFits = some u ∧ f_X8_share x1 x2 vM_up vM_down vM_sharesUp vM_sharesDown vM_onUp vM_onDown vM_great cM_d cM_found cM_path cM_comesUp cM_comesDown = some v ∧ u.1 = v.1 ∧ Inv cT_present_kind cT_present_above cT_present_edge cT_present_pool cT_present_store cT_present_spot vT_present_basins vT_present_spring vT_present_hour vT_present_z vT_pictured cT_picture_kind cT_picture_above cT_picture_edge cT_picture_pool cT_picture_store cT_picture_spot vT_picture_basins vT_picture_spring vT_picture_hour vT_picture_z u.2.1 cT_tape_bytes vT_tape_size vT_sheets_bits vT_sheets_size cT_sheets_numbers cM_d vM_isKept cM_kept v.2.2.2.2.2.2.2.2.1 cM_tape vM_taped cM_bitsOf cM_sizeOf cM_number := by
  obtain ⟨⟨f, hV, hC, hM⟩, hI2, hT, hP, hS⟩ := hI
  have hF : RF cT_present_kind cT_present_above cT_present_edge cT_present_pool cT_present_store cT_present_spot vT_present_basins vT_present_spring vT_present_hour vT_present_z cM_d := ⟨f, hV, hC, hM⟩
  have hn : f.n ≤ 10 := hV.1
  have hG : VG f := VG_of hV
  have h71 : f_X7_within x2 (0 : Int32) (1 : Int32) = some (kI (rg 0 1 x2)) := within_n (by decide) (by decide) x2
  have h81 : f_X8_in x2.toInt64 (0 : Int64) (1 : Int64) = some (kI (rg 0 1 x2)) := in_n (by decide) rfl rfl x2
  obtain rfl := hC.1
  unfold f_X7_share f_X8_share
  rw [bd_t (isB7 (by omega) x1), bd_t (isB8 (by omega) hM.1 x1), br_kI, br_kI]
  by_cases hb : isb f.n x1
  rotate_left
  · rw [br_f1 hb, br_f1 hb, bd_t (tell0 _), bd_t (finds0 _)]
    exact ⟨_, _, rfl, rfl, rfl, hF, hI2, RT_tell hT 0, hP, hS⟩
  rw [br_t1 hb, br_t1 hb, bd_t h71, bd_t h81, br_kI, br_kI]
  by_cases hw : rg 0 1 x2
  rotate_left
  · rw [br_f1 hw, br_f1 hw, bd_t (tell0 _), bd_t (finds0 _)]
    exact ⟨_, _, rfl, rfl, rfl, hF, hI2, RT_tell hT 0, hP, hS⟩
  obtain ⟨b, hb, rfl⟩ := hb
  have v : vp_in (nI b) 10 := vp_in_nI (by omega) (by decide)
  obtain ⟨t, u, oT, oB, oF, kT, kB, kF, hR, -, hK⟩ := reck7 hG (fun o ho => (hC.2.2.2.2.1 o ho).2.1) (fun o ho => (hC.2.2.2.2.1 o ho).2.2.1) (fun o ho => (hC.2.2.2.2.1 o ho).1) vT_shares_top vT_shares_bottom cT_shares_onTop cT_shares_onBottom cT_shares_onFits cT_shares_keptTop cT_shares_keptBottom cT_shares_keptFits
  obtain ⟨⟨w1, w2, w3, w4, w5, w6, w7, w8, w9, w10, w11⟩, hW, hWv⟩ := isShare8 hG hM hb vM_up vM_down vM_sharesUp vM_sharesDown vM_onUp vM_onDown vM_great cM_path cM_comesUp cM_comesDown
  dsimp only at hWv
  rw [br_t1 hw, br_t1 hw, bd_t hR, bd_t hW]
  dsimp only
  rw [gd_t v, gd_t v, gd_t v, nI_clamp (by omega)]
  have hKb := hK b hb
  rcases hWv with ⟨rfl, h2⟩ | ⟨rfl, r, h2, -, rfl, rfl⟩
  · rcases hKb with ⟨r, h3, -, -, -⟩ | ⟨-, h3⟩
    · rw [h2] at h3; cases h3
    · rw [h3, br_t1 rfl, br_t1 rfl, bd_t (tell6 _), bd_t (finds6 _)]
      exact ⟨_, _, rfl, rfl, rfl, hF, hI2, RT_tell hT 6, hP, hS⟩
  · rcases hKb with ⟨r', h3, h4, h5, h6⟩ | ⟨h3, -⟩
    · rw [h2] at h3
      injection h3 with h3
      subst h3
      rw [h4, h5, h6, br_f1 (show ¬ (1 : Int32) = 0 by decide), br_f1 (show ¬ (1 : Int32) = 0 by decide)]
      by_cases h0 : x2 = 0
      · rw [br_t1 h0, br_t1 h0]
        exact ⟨_, _, rfl, rfl, rfl, hF, hI2, hT, hP, hS⟩
      · rw [br_f1 h0, br_f1 h0]
        exact ⟨_, _, rfl, rfl, rfl, hF, hI2, hT, hP, hS⟩
    · rw [h2] at h3; cases h3
theorem L_rest (x1 x2 : Int32) (cT_present_kind : Nat → Int32) (cT_present_above : Nat → Int32) (cT_present_edge : Nat → Int32) (cT_present_pool : Nat → Int32) (cT_present_store : Nat → Int32) (cT_present_spot : Nat → Int32) (vT_present_basins : Int32) (vT_present_spring : Int32) (vT_present_hour : Int32) (vT_present_z : Int32) (vT_pictured : Int32) (cT_picture_kind : Nat → Int32) (cT_picture_above : Nat → Int32) (cT_picture_edge : Nat → Int32) (cT_picture_pool : Nat → Int32) (cT_picture_store : Nat → Int32) (cT_picture_spot : Nat → Int32) (vT_picture_basins : Int32) (vT_picture_spring : Int32) (vT_picture_hour : Int32) (vT_picture_z : Int32) (cT_told : Nat → Int32) (cT_tape_bytes : Nat → Int32) (vT_tape_size : Int32) (vT_sheets_bits : Nat → Int32) (vT_sheets_size : Nat → Int32) (cT_sheets_numbers : Nat → Nat → Int32) (cM_d : Nat → Int32) (vM_isKept : Int32) (cM_kept : Nat → Int32) (cM_found : Nat → Int32) (cM_tape : Nat → Int32) (vM_taped : Int32) (cM_bitsOf : Nat → Int32) (cM_sizeOf : Nat → Int32) (cM_number : Nat → Int32) (vT_shares_top : Int64) (vT_shares_bottom : Int64) (cT_shares_onTop : Nat → Int64) (cT_shares_onBottom : Nat → Int64) (cT_shares_onFits : Nat → Int32) (cT_shares_keptTop : Nat → Int64) (cT_shares_keptBottom : Nat → Int64) (cT_shares_keptFits : Nat → Int32) (vM_up : Int64) (vM_down : Int64) (vM_sharesUp : Int64) (vM_sharesDown : Int64) (vM_onUp : Int64) (vM_onDown : Int64) (vM_great : Int32) (cM_path : Nat → Int32) (cM_comesUp : Nat → Int64) (cM_comesDown : Nat → Int64) (hI : Inv cT_present_kind cT_present_above cT_present_edge cT_present_pool cT_present_store cT_present_spot vT_present_basins vT_present_spring vT_present_hour vT_present_z vT_pictured cT_picture_kind cT_picture_above cT_picture_edge cT_picture_pool cT_picture_store cT_picture_spot vT_picture_basins vT_picture_spring vT_picture_hour vT_picture_z cT_told cT_tape_bytes vT_tape_size vT_sheets_bits vT_sheets_size cT_sheets_numbers cM_d vM_isKept cM_kept cM_found cM_tape vM_taped cM_bitsOf cM_sizeOf cM_number) : ∃ (u : Int64 × (Nat → Int32) × Int64 × Int64 × (Nat → Int64) × (Nat → Int64) × (Nat → Int32) × (Nat → Int64) × (Nat → Int64) × (Nat → Int32)) (v : Int64 × Int64 × Int64 × Int64 × Int64 × Int64 × Int64 × Int32 × (Nat → Int32) × (Nat → Int32) × (Nat → Int64) × (Nat → Int64)), f_X7_rest x1 x2 vT_present_basins cT_told cT_present_above cT_present_edge vT_shares_top vT_shares_bottom cT_shares_onTop cT_shares_onBottom cT_shares_onFits cT_present_kind cT_shares_keptTop cT_shares_keptBottom cT_shares_keptFits = some u ∧ f_X8_rest x1 x2 vM_up vM_down vM_sharesUp vM_sharesDown vM_onUp vM_onDown vM_great cM_d cM_found cM_path cM_comesUp cM_comesDown = some v ∧ u.1 = v.1 ∧ Inv cT_present_kind cT_present_above cT_present_edge cT_present_pool cT_present_store cT_present_spot vT_present_basins vT_present_spring vT_present_hour vT_present_z vT_pictured cT_picture_kind cT_picture_above cT_picture_edge cT_picture_pool cT_picture_store cT_picture_spot vT_picture_basins vT_picture_spring vT_picture_hour vT_picture_z u.2.1 cT_tape_bytes vT_tape_size vT_sheets_bits vT_sheets_size cT_sheets_numbers cM_d vM_isKept cM_kept v.2.2.2.2.2.2.2.2.1 cM_tape vM_taped cM_bitsOf cM_sizeOf cM_number := by
  obtain ⟨⟨f, hV, hC, hM⟩, hI2, hT, hP, hS⟩ := hI
  have hF : RF cT_present_kind cT_present_above cT_present_edge cT_present_pool cT_present_store cT_present_spot vT_present_basins vT_present_spring vT_present_hour vT_present_z cM_d := ⟨f, hV, hC, hM⟩
  have hn : f.n ≤ 10 := hV.1
  have hG : VG f := VG_of hV
  have h71 : f_X7_within x2 (0 : Int32) (1 : Int32) = some (kI (rg 0 1 x2)) := within_n (by decide) (by decide) x2
  have h81 : f_X8_in x2.toInt64 (0 : Int64) (1 : Int64) = some (kI (rg 0 1 x2)) := in_n (by decide) rfl rfl x2
  obtain rfl := hC.1
  unfold f_X7_rest f_X8_rest
  rw [bd_t (isB7 (by omega) x1), bd_t (isB8 (by omega) hM.1 x1), br_kI, br_kI]
  by_cases hb : isb f.n x1
  rotate_left
  · rw [br_f1 hb, br_f1 hb, bd_t (tell0 _), bd_t (finds0 _)]
    exact ⟨_, _, rfl, rfl, rfl, hF, hI2, RT_tell hT 0, hP, hS⟩
  rw [br_t1 hb, br_t1 hb, bd_t h71, bd_t h81, br_kI, br_kI]
  by_cases hw : rg 0 1 x2
  rotate_left
  · rw [br_f1 hw, br_f1 hw, bd_t (tell0 _), bd_t (finds0 _)]
    exact ⟨_, _, rfl, rfl, rfl, hF, hI2, RT_tell hT 0, hP, hS⟩
  obtain ⟨b, hb, rfl⟩ := hb
  have v : vp_in (nI b) 10 := vp_in_nI (by omega) (by decide)
  have hw9 : f.wd b ≤ 90 := wd_le hG f.n b (Nat.le_refl _)
  rw [br_t1 hw, br_t1 hw, bd_t (width7 hG (fun o ho => (hC.2.2.2.2.1 o ho).2.1) (fun o ho => (hC.2.2.2.2.1 o ho).2.2.1) hb), bd_t (edges_e hG hM hb)]
  by_cases hz : f.wd b = 0
  rotate_left
  · rw [br_f1 (nI_nle (by omega) (by omega)), br_f1 (nI_nle (by omega) (by omega))]
    exact ⟨_, _, rfl, rfl, rfl, hF, hI2, hT, hP, hS⟩
  have hz' : nI (f.wd b) ≤ 0 := by rw [hz]; decide
  rw [br_t1 hz', br_t1 hz']
  obtain ⟨t, u, oT, oB, oF, kT, kB, kF, hR, hO, -⟩ := reck7 hG (fun o ho => (hC.2.2.2.2.1 o ho).2.1) (fun o ho => (hC.2.2.2.2.1 o ho).2.2.1) (fun o ho => (hC.2.2.2.2.1 o ho).1) vT_shares_top vT_shares_bottom cT_shares_onTop cT_shares_onBottom cT_shares_onFits cT_shares_keptTop cT_shares_keptBottom cT_shares_keptFits
  obtain ⟨⟨w1, w2, w3, w4, w5, w6, w7, w8, w9, w10⟩, hW, hWv⟩ := way8 hG hM hb vM_up vM_down vM_sharesUp vM_sharesDown vM_onUp vM_onDown vM_great cM_path cM_comesUp cM_comesDown
  dsimp only at hWv
  rw [bd_t hR, bd_t hW]
  dsimp only
  rw [gd_t v, gd_t v, gd_t v, nI_clamp (by omega)]
  have hOb := hO b hb
  rcases hWv with ⟨rfl, h2⟩ | ⟨rfl, c, h2, h3, h4⟩
  · have hon : f.onF b = none := by unfold Fo.onF; rw [h2]; rfl
    rcases hOb with ⟨r, h3, -, -, -⟩ | ⟨-, h3⟩
    · rw [hon] at h3; cases h3
    · rw [h3, br_t1 rfl, br_f1 (by decide), bd_t (tell6 _)]
      unfold f_X8_rest_J54
      rw [br_f1 (by decide), bd_t (finds6 _)]
      exact ⟨_, _, rfl, rfl, rfl, hF, hI2, RT_tell hT 6, hP, hS⟩
  · obtain ⟨⟨z1, z2, z3, z4, z5, z6, z7⟩, hZ, hZv⟩ := rest8 hG hM hb h2 h3 h4 w1 w2 w3 w4 w5 w6
    dsimp only at hZv
    rw [br_t1 rfl, bd_t hZ]
    dsimp only
    unfold f_X8_rest_J54
    rcases hZv with ⟨rfl, hon⟩ | ⟨rfl, r, hon, rfl, rfl⟩
    · rcases hOb with ⟨r, h3, -, -, -⟩ | ⟨-, h3⟩
      · rw [hon] at h3; cases h3
      · rw [h3, br_t1 rfl, br_f1 (by decide), bd_t (tell6 _), bd_t (finds6 _)]
        exact ⟨_, _, rfl, rfl, rfl, hF, hI2, RT_tell hT 6, hP, hS⟩
    · rcases hOb with ⟨r', h3, h4, h5, h6⟩ | ⟨h3, -⟩
      · rw [hon] at h3
        injection h3 with h3
        subst h3
        rw [h4, h5, h6, br_f1 (show ¬ (1 : Int32) = 0 by decide), br_t1 (show (0 : Int32) = 0 from rfl)]
        by_cases h0 : x2 = 0
        · rw [br_t1 h0, br_t1 h0]
          exact ⟨_, _, rfl, rfl, rfl, hF, hI2, hT, hP, hS⟩
        · rw [br_f1 h0, br_f1 h0]
          exact ⟨_, _, rfl, rfl, rfl, hF, hI2, hT, hP, hS⟩
      · rw [hon] at h3; cases h3
theorem L_compare (x1 x2 : Int32) (cT_present_kind : Nat → Int32) (cT_present_above : Nat → Int32) (cT_present_edge : Nat → Int32) (cT_present_pool : Nat → Int32) (cT_present_store : Nat → Int32) (cT_present_spot : Nat → Int32) (vT_present_basins : Int32) (vT_present_spring : Int32) (vT_present_hour : Int32) (vT_present_z : Int32) (vT_pictured : Int32) (cT_picture_kind : Nat → Int32) (cT_picture_above : Nat → Int32) (cT_picture_edge : Nat → Int32) (cT_picture_pool : Nat → Int32) (cT_picture_store : Nat → Int32) (cT_picture_spot : Nat → Int32) (vT_picture_basins : Int32) (vT_picture_spring : Int32) (vT_picture_hour : Int32) (vT_picture_z : Int32) (cT_told : Nat → Int32) (cT_tape_bytes : Nat → Int32) (vT_tape_size : Int32) (vT_sheets_bits : Nat → Int32) (vT_sheets_size : Nat → Int32) (cT_sheets_numbers : Nat → Nat → Int32) (cM_d : Nat → Int32) (vM_isKept : Int32) (cM_kept : Nat → Int32) (cM_found : Nat → Int32) (cM_tape : Nat → Int32) (vM_taped : Int32) (cM_bitsOf : Nat → Int32) (cM_sizeOf : Nat → Int32) (cM_number : Nat → Int32) (vT_shares_top : Int64) (vT_shares_bottom : Int64) (cT_shares_onTop : Nat → Int64) (cT_shares_onBottom : Nat → Int64) (cT_shares_onFits : Nat → Int32) (cT_shares_keptTop : Nat → Int64) (cT_shares_keptBottom : Nat → Int64) (cT_shares_keptFits : Nat → Int32) (vM_up : Int64) (vM_down : Int64) (vM_sharesUp : Int64) (vM_sharesDown : Int64) (vM_onUp : Int64) (vM_onDown : Int64) (vM_great : Int32) (cM_path : Nat → Int32) (cM_comesUp : Nat → Int64) (cM_comesDown : Nat → Int64) (hI : Inv cT_present_kind cT_present_above cT_present_edge cT_present_pool cT_present_store cT_present_spot vT_present_basins vT_present_spring vT_present_hour vT_present_z vT_pictured cT_picture_kind cT_picture_above cT_picture_edge cT_picture_pool cT_picture_store cT_picture_spot vT_picture_basins vT_picture_spring vT_picture_hour vT_picture_z cT_told cT_tape_bytes vT_tape_size vT_sheets_bits vT_sheets_size cT_sheets_numbers cM_d vM_isKept cM_kept cM_found cM_tape vM_taped cM_bitsOf cM_sizeOf cM_number) : ∃ (u : Int32 × (Nat → Int32) × Int64 × Int64 × (Nat → Int64) × (Nat → Int64) × (Nat → Int32) × (Nat → Int64) × (Nat → Int64) × (Nat → Int32)) (v : Int32 × Int64 × Int64 × Int64 × Int64 × Int64 × Int64 × Int32 × (Nat → Int32) × (Nat → Int32) × (Nat → Int64) × (Nat → Int64)), f_X7_compare x1 x2 vT_present_basins cT_told vT_shares_top vT_shares_bottom cT_present_above cT_shares_onTop cT_shares_onBottom cT_shares_onFits cT_present_edge cT_present_kind cT_shares_keptTop cT_shares_keptBottom cT_shares_keptFits = some u ∧ f_X8_compare x1 x2 vM_up vM_down vM_sharesUp vM_sharesDown vM_onUp vM_onDown vM_great cM_d cM_found cM_path cM_comesUp cM_comesDown = some v ∧ u.1 = v.1 ∧ Inv cT_present_kind cT_present_above cT_present_edge cT_present_pool cT_present_store cT_present_spot vT_present_basins vT_present_spring vT_present_hour vT_present_z vT_pictured cT_picture_kind cT_picture_above cT_picture_edge cT_picture_pool cT_picture_store cT_picture_spot vT_picture_basins vT_picture_spring vT_picture_hour vT_picture_z u.2.1 cT_tape_bytes vT_tape_size vT_sheets_bits vT_sheets_size cT_sheets_numbers cM_d vM_isKept cM_kept v.2.2.2.2.2.2.2.2.1 cM_tape vM_taped cM_bitsOf cM_sizeOf cM_number := by
  obtain ⟨⟨f, hV, hC, hM⟩, hI2, hT, hP, hS⟩ := hI
  have hF : RF cT_present_kind cT_present_above cT_present_edge cT_present_pool cT_present_store cT_present_spot vT_present_basins vT_present_spring vT_present_hour vT_present_z cM_d := ⟨f, hV, hC, hM⟩
  have hn : f.n ≤ 10 := hV.1
  have hG : VG f := VG_of hV
  obtain rfl := hC.1
  unfold f_X7_compare f_X8_compare
  rw [bd_t (isB7 (by omega) x1), bd_t (isB8 (by omega) hM.1 x1), br_kI, br_kI]
  by_cases hb : isb f.n x1
  rotate_left
  · rw [br_f1 hb, br_f1 hb, bd_t (tell0 _), bd_t (finds0 _)]
    exact ⟨_, _, rfl, rfl, rfl, hF, hI2, RT_tell hT 0, hP, hS⟩
  rw [br_t1 hb, br_t1 hb, bd_t (isB7 (by omega) x2), bd_t (isB8 (by omega) hM.1 x2), br_kI, br_kI]
  by_cases ha : isb f.n x2
  rotate_left
  · rw [br_f1 ha, br_f1 ha, bd_t (tell0 _), bd_t (finds0 _)]
    exact ⟨_, _, rfl, rfl, rfl, hF, hI2, RT_tell hT 0, hP, hS⟩
  rw [br_t1 ha, br_t1 ha]
  obtain ⟨b, hb, rfl⟩ := hb
  obtain ⟨a, ha, rfl⟩ := ha
  have v : vp_in (nI b) 10 := vp_in_nI (by omega) (by decide)
  have va : vp_in (nI a) 10 := vp_in_nI (by omega) (by decide)
  obtain ⟨t, u, oT, oB, oF, kT, kB, kF, hR, -, hK⟩ := reck7 hG (fun o ho => (hC.2.2.2.2.1 o ho).2.1) (fun o ho => (hC.2.2.2.2.1 o ho).2.2.1) (fun o ho => (hC.2.2.2.2.1 o ho).1) vT_shares_top vT_shares_bottom cT_shares_onTop cT_shares_onBottom cT_shares_onFits cT_shares_keptTop cT_shares_keptBottom cT_shares_keptFits
  obtain ⟨⟨w1, w2, w3, w4, w5, w6, w7, w8, w9, w10, w11⟩, hW, hWv⟩ := isShare8 hG hM hb vM_up vM_down vM_sharesUp vM_sharesDown vM_onUp vM_onDown vM_great cM_path cM_comesUp cM_comesDown
  obtain ⟨⟨z1, z2, z3, z4, z5, z6, z7, z8, z9, z10, z11⟩, hZ, hZv⟩ := isShare8 hG hM ha w2 w3 w4 w5 w6 w7 w8 w9 w10 w11
  dsimp only at hWv hZv
  rw [bd_t hR, bd_t hW]
  dsimp only
  rw [bd_t hZ]
  dsimp only
  rw [gd_t v, gd_t va, nI_clamp (show b < 2 ^ 31 by omega), nI_clamp (show a < 2 ^ 31 by omega), bd_t (tell6 _)]
  have hKb := hK b hb
  have hKa := hK a ha
  unfold f_X8_compare_J57
  rcases hWv with ⟨rfl, h2⟩ | ⟨rfl, r, h2, hv, rfl, rfl⟩
  · rcases hKb with ⟨r, h3, -, -, -⟩ | ⟨-, h3⟩
    · rw [h2] at h3; cases h3
    · rw [h3, br_t1 rfl, br_t1 rfl, bd_t (finds6 _), br_t1 rfl, br_id]
      exact ⟨_, _, rfl, rfl, rfl, hF, hI2, RT_tell hT 6, hP, hS⟩
  · rcases hKb with ⟨r', h3, h4, h5, h6⟩ | ⟨h3, -⟩
    rotate_left
    · rw [h2] at h3; cases h3
    rw [h2] at h3
    injection h3 with h3
    subst h3
    rw [h4, br_f1 (by decide)]
    rcases hZv with ⟨rfl, g2⟩ | ⟨rfl, q, g2, gv, rfl, rfl⟩
    · rcases hKa with ⟨q, g3, -, -, -⟩ | ⟨-, g3⟩
      · rw [g2] at g3; cases g3
      · rw [g3, br_t1 rfl, br_t1 rfl, br_t1 rfl, bd_t (finds6 _)]
        exact ⟨_, _, rfl, rfl, rfl, hF, hI2, RT_tell hT 6, hP, hS⟩
    · rcases hKa with ⟨q', g3, g4, g5, g6⟩ | ⟨g3, -⟩
      rotate_left
      · rw [g2] at g3; cases g3
      rw [g2] at g3
      injection g3 with g3
      subst g3
      rw [g4, br_f1 (by decide), br_f1 (by decide), br_f1 (by decide), br_f1 (by decide), bd_t (order7_e (show b < 10 by omega) (show a < 10 by omega) h5 h6 g5 g6 hv gv), bd_t (order8_e hv gv)]
      exact ⟨_, _, rfl, rfl, rfl, hF, hI2, hT, hP, hS⟩
theorem cmp_3 (x y : Nat) : cmpI x y = 0 ∨ cmpI x y = 1 ∨ cmpI x y = -1 := by
  rcases Nat.lt_trichotomy x y with h | h | h
  · rw [cmpI_l h]; exact Or.inr (Or.inr rfl)
  · rw [cmpI_e h]; exact Or.inl rfl
  · rw [cmpI_g h]; exact Or.inr (Or.inl rfl)
theorem L_extreme (x1 : Int32) (cT_present_kind : Nat → Int32) (cT_present_above : Nat → Int32) (cT_present_edge : Nat → Int32) (cT_present_pool : Nat → Int32) (cT_present_store : Nat → Int32) (cT_present_spot : Nat → Int32) (vT_present_basins : Int32) (vT_present_spring : Int32) (vT_present_hour : Int32) (vT_present_z : Int32) (vT_pictured : Int32) (cT_picture_kind : Nat → Int32) (cT_picture_above : Nat → Int32) (cT_picture_edge : Nat → Int32) (cT_picture_pool : Nat → Int32) (cT_picture_store : Nat → Int32) (cT_picture_spot : Nat → Int32) (vT_picture_basins : Int32) (vT_picture_spring : Int32) (vT_picture_hour : Int32) (vT_picture_z : Int32) (cT_told : Nat → Int32) (cT_tape_bytes : Nat → Int32) (vT_tape_size : Int32) (vT_sheets_bits : Nat → Int32) (vT_sheets_size : Nat → Int32) (cT_sheets_numbers : Nat → Nat → Int32) (cM_d : Nat → Int32) (vM_isKept : Int32) (cM_kept : Nat → Int32) (cM_found : Nat → Int32) (cM_tape : Nat → Int32) (vM_taped : Int32) (cM_bitsOf : Nat → Int32) (cM_sizeOf : Nat → Int32) (cM_number : Nat → Int32) (vT_shares_top : Int64) (vT_shares_bottom : Int64) (cT_shares_onTop : Nat → Int64) (cT_shares_onBottom : Nat → Int64) (cT_shares_onFits : Nat → Int32) (cT_shares_keptTop : Nat → Int64) (cT_shares_keptBottom : Nat → Int64) (cT_shares_keptFits : Nat → Int32) (vM_up : Int64) (vM_down : Int64) (vM_sharesUp : Int64) (vM_sharesDown : Int64) (vM_onUp : Int64) (vM_onDown : Int64) (vM_great : Int32) (cM_path : Nat → Int32) (cM_comesUp : Nat → Int64) (cM_comesDown : Nat → Int64) (hI : Inv cT_present_kind cT_present_above cT_present_edge cT_present_pool cT_present_store cT_present_spot vT_present_basins vT_present_spring vT_present_hour vT_present_z vT_pictured cT_picture_kind cT_picture_above cT_picture_edge cT_picture_pool cT_picture_store cT_picture_spot vT_picture_basins vT_picture_spring vT_picture_hour vT_picture_z cT_told cT_tape_bytes vT_tape_size vT_sheets_bits vT_sheets_size cT_sheets_numbers cM_d vM_isKept cM_kept cM_found cM_tape vM_taped cM_bitsOf cM_sizeOf cM_number) : ∃ (u : Int32 × Int64 × Int64 × (Nat → Int64) × (Nat → Int64) × (Nat → Int32) × (Nat → Int64) × (Nat → Int64) × (Nat → Int32) × (Nat → Int32)) (v : Int32 × Int64 × Int64 × Int64 × Int64 × Int64 × Int64 × Int32 × (Nat → Int32) × (Nat → Int64) × (Nat → Int64) × (Nat → Int32)), f_X7_extreme x1 vT_present_basins vT_shares_top vT_shares_bottom cT_present_above cT_shares_onTop cT_shares_onBottom cT_shares_onFits cT_present_edge cT_present_kind cT_shares_keptTop cT_shares_keptBottom cT_shares_keptFits cT_told = some u ∧ f_X8_extreme x1 vM_up vM_down vM_sharesUp vM_sharesDown vM_onUp vM_onDown vM_great cM_d cM_path cM_comesUp cM_comesDown cM_found = some v ∧ u.1 = v.1 ∧ Inv cT_present_kind cT_present_above cT_present_edge cT_present_pool cT_present_store cT_present_spot vT_present_basins vT_present_spring vT_present_hour vT_present_z vT_pictured cT_picture_kind cT_picture_above cT_picture_edge cT_picture_pool cT_picture_store cT_picture_spot vT_picture_basins vT_picture_spring vT_picture_hour vT_picture_z u.2.2.2.2.2.2.2.2.2 cT_tape_bytes vT_tape_size vT_sheets_bits vT_sheets_size cT_sheets_numbers cM_d vM_isKept cM_kept v.2.2.2.2.2.2.2.2.2.2.2 cM_tape vM_taped cM_bitsOf cM_sizeOf cM_number := by
  obtain ⟨⟨f, hV, hC, hM⟩, hI2, hT, hP, hS⟩ := hI
  have hF : RF cT_present_kind cT_present_above cT_present_edge cT_present_pool cT_present_store cT_present_spot vT_present_basins vT_present_spring vT_present_hour vT_present_z cM_d := ⟨f, hV, hC, hM⟩
  have hn : f.n ≤ 10 := hV.1
  have hG : VG f := VG_of hV
  have h71 : f_X7_within x1 (0 : Int32) (1 : Int32) = some (kI (rg 0 1 x1)) := within_n (by decide) (by decide) x1
  have h81 : f_X8_in x1.toInt64 (0 : Int64) (1 : Int64) = some (kI (rg 0 1 x1)) := in_n (by decide) rfl rfl x1
  unfold f_X7_extreme f_X8_extreme
  rw [bd_t h71, bd_t h81, br_kI, br_kI, show cM_d (0 : Int32).toNatClampNeg = nI f.n from hM.1]
  obtain rfl := hC.1
  by_cases hw : rg 0 1 x1
  rotate_left
  · rw [br_f1 hw, br_f1 hw, bd_t (tell0 _), bd_t (finds0 _)]
    exact ⟨_, _, rfl, rfl, rfl, hF, hI2, RT_tell hT 0, hP, hS⟩
  rw [br_t1 hw, br_t1 hw]
  by_cases h0 : f.n = 0
  · rw [br_t1 (show nI f.n = 0 by rw [h0]; rfl), br_t1 (show nI f.n = 0 by rw [h0]; rfl), bd_t (tell3 _), bd_t (finds3 _)]
    exact ⟨_, _, rfl, rfl, rfl, hF, hI2, RT_tell hT 3, hP, hS⟩
  rw [br_f1 (nI_ne 0 0 h0), br_f1 (nI_ne 0 0 h0)]
  obtain ⟨t, u, oT, oB, oF, kT, kB, kF, hR, -, hK⟩ := reck7 hG (fun o ho => (hC.2.2.2.2.1 o ho).2.1) (fun o ho => (hC.2.2.2.2.1 o ho).2.2.1) (fun o ho => (hC.2.2.2.2.1 o ho).1) vT_shares_top vT_shares_bottom cT_shares_onTop cT_shares_onBottom cT_shares_onFits cT_shares_keptTop cT_shares_keptBottom cT_shares_keptFits
  rw [bd_t hR]
  dsimp only
  obtain ⟨w, hwd⟩ : ∃ w : Int32, w = (if x1 = 0 then 1 else -1) := ⟨_, rfl⟩
  have hbr : ∀ {A : Type} (X : Int32 → Option A), br (x1 = 0) (X 1) (X (-1)) = X w := by
    intro A X
    rw [hwd]
    by_cases h : x1 = 0
    · rw [br_t1 h, if_pos h]
    · rw [br_f1 h, if_neg h]
  rw [hbr (fun y => f_X7_extreme_L59 x1 (nI f.n) cT_present_above cT_present_edge cT_present_kind FU (y, (0 : Int32), (0 : Int32), t, u, oT, oB, oF, kT, kB, kF, cT_told))]
  refine two_imp (fun u v => u.1 = v.1 ∧ RT u.2.2.2.2.2.2.2.2.2 v.2.2.2.2.2.2.2.2.2.2.2) ?_ (fun u v e => ⟨e.1, hF, hI2, e.2, hP, hS⟩)
  unfold f_X7_extreme_L59 f_X8_extreme_L41
  refine lp_two4 f.n (fun i s v => s.1 = w ∧ s.2.2.1 = nI i ∧ v.2.2.2.1 = nI i ∧ s.2.2.2.2.2.2.2.2.1 = kT ∧ s.2.2.2.2.2.2.2.2.2.1 = kB ∧ s.2.2.2.2.2.2.2.2.2.2.1 = kF ∧ s.2.2.2.2.2.2.2.2.2.2.2 = cT_told ∧ v.2.2.2.2.2.2.2.2.2.2.2.2.2.2 = cM_found ∧ ((i = 0 ∧ s.2.1 = 0 ∧ v.1 = -1) ∨ (∃ a r, a < i ∧ s.2.1 = nI a ∧ v.1 = nI a ∧ f.keptF a = some r ∧ vF r ∧ v.2.1 = lN r.1 ∧ v.2.2.1 = lN r.2))) ⟨rfl, rfl, rfl, rfl, rfl, rfl, rfl, rfl, Or.inl ⟨rfl, rfl, rfl⟩⟩ (FU_gt (by omega)) ?_
  rintro i ⟨y2, y3, y4, t, u, oT, oB, oF, kT', kB', kF', tt⟩ ⟨z2, z3, z5, z7, up, dn, su, sd, ou, od, gr, pa, cu, cd, fo⟩ hi ⟨a1, a2, a3, a4, a5, a6, a7, a8, a9⟩ rc rd
  dsimp only at a1 a2 a3 a4 a5 a6 a7 a8 a9 ⊢
  subst a1 a2 a3 a4 a5 a6 a7 a8
  unfold f_X7_extreme_L59_b f_X8_extreme_L41_b
  rw [show cM_d (0 : Int32).toNatClampNeg = nI f.n from hM.1]
  by_cases hx : i = f.n
  · left
    subst hx
    rw [br_t1 (nI_le (Nat.le_refl _) (by omega)), br_t1 (nI_le (Nat.le_refl _) (by omega))]
    rcases a9 with ⟨e, -, -⟩ | ⟨a, r, e1, rfl, rfl, -⟩
    · exact absurd e h0
    · exact ⟨_, _, rfl, rfl, rfl, hT⟩
  have hi' : i < f.n := by omega
  have v : vp_in (nI i) 10 := vp_in_nI (by omega) (by decide)
  obtain ⟨⟨w1, w2, w3, w4, w5, w6, w7, w8, w9, w10, w11⟩, hW, hWv⟩ := isShare8 hG hM hi' up dn su sd ou od gr pa cu cd
  dsimp only at hWv
  rw [br_f1 (nI_ge hi' (by omega)), br_f1 (nI_ge hi' (by omega)), gd_t v, bd_t hW, nI_clamp (by omega)]
  dsimp only
  have hKi := hK i hi'
  rcases hWv with ⟨rfl, h2⟩ | ⟨rfl, r, h2, hv, rfl, rfl⟩
  · left
    rcases hKi with ⟨r, h3, -, -, -⟩ | ⟨-, h3⟩
    · rw [h2] at h3; cases h3
    · rw [h3, br_t1 rfl, br_t1 rfl, bd_t (tell6 _), bd_t (finds6 _)]
      exact ⟨_, _, rfl, rfl, rfl, RT_tell hT 6⟩
  right
  refine ⟨hi', ?_⟩
  rcases hKi with ⟨r', h3, h4, h5, h6⟩ | ⟨h3, -⟩
  rotate_left
  · rw [h2] at h3; cases h3
  rw [h2] at h3
  injection h3 with h3
  subst h3
  rw [h4, br_f1 (by decide), br_f1 (by decide)]
  rcases a9 with ⟨rfl, rfl, rfl⟩ | ⟨a, q, e1, rfl, rfl, e4, ev, rfl, rfl⟩
  · have ho := order7_e (i := 0) (j := 0) (by decide) (by decide) h5 h6 h5 h6 hv hv
    rw [cmpI_e rfl] at ho
    have hw1 : ¬ (0 : Int32) = y2 := by
      rw [hwd]
      by_cases h : x1 = 0
      · rw [if_pos h]; decide
      · rw [if_neg h]; decide
    rw [bd_t (show f_X4_order (nI 0) 0 kT' kB' = some 0 from ho), br_f1 hw1, br_f1 (by decide)]
    unfold f_X8_extreme_J100
    rw [br_f1 (by decide)]
    refine ⟨_, _, ?_, rfl, rfl⟩
    exact ⟨rfl, nI_1 0, nI_1 0, rfl, rfl, rfl, rfl, rfl, Or.inr ⟨0, r, by omega, rfl, rfl, h2, hv, rfl, rfl⟩⟩
  · have hKa := hK a (by omega)
    rcases hKa with ⟨q', g3, g4, g5, g6⟩ | ⟨g3, -⟩
    rotate_left
    · rw [e4] at g3; cases g3
    rw [e4] at g3
    injection g3 with g3
    subst g3
    rw [bd_t (order7_e (show i < 10 by omega) (show a < 10 by omega) h5 h6 g5 g6 hv ev), br_t1 (nI_pos' (by omega)), bd_t (order8_e hv ev)]
    unfold f_X8_extreme_J100
    rw [hwd]
    have hc := cmp_3 (r.1 * q.2) (q.1 * r.2)
    generalize cmpI (r.1 * q.2) (q.1 * r.2) = c at *
    by_cases h : x1 = 0
    · rw [if_pos h, br_t1 h]
      by_cases hc1 : c = 1
      · rw [br_t1 hc1, br_f1 (by rw [hc1]; decide)]
        refine ⟨_, _, ?_, rfl, rfl⟩
        exact ⟨rfl, nI_1 i, nI_1 i, rfl, rfl, rfl, rfl, rfl, Or.inr ⟨i, r, by omega, rfl, rfl, h2, hv, rfl, rfl⟩⟩
      · have hle : c * 1 ≤ 0 := by
          rcases hc with rfl | rfl | rfl
          · decide
          · exact absurd rfl hc1
          · decide
        rw [br_f1 hc1, br_t1 hle]
        refine ⟨_, _, ?_, rfl, rfl⟩
        exact ⟨rfl, nI_1 i, nI_1 i, rfl, rfl, rfl, rfl, rfl, Or.inr ⟨a, q, by omega, rfl, rfl, e4, ev, rfl, rfl⟩⟩
    · rw [if_neg h, br_f1 h]
      by_cases hc1 : c = -1
      · rw [br_t1 hc1, br_f1 (by rw [hc1]; decide)]
        refine ⟨_, _, ?_, rfl, rfl⟩
        exact ⟨rfl, nI_1 i, nI_1 i, rfl, rfl, rfl, rfl, rfl, Or.inr ⟨i, r, by omega, rfl, rfl, h2, hv, rfl, rfl⟩⟩
      · have hle : c * -1 ≤ 0 := by
          rcases hc with rfl | rfl | rfl
          · decide
          · decide
          · exact absurd rfl hc1
        rw [br_f1 hc1, br_t1 hle]
        refine ⟨_, _, ?_, rfl, rfl⟩
        exact ⟨rfl, nI_1 i, nI_1 i, rfl, rfl, rfl, rfl, rfl, Or.inr ⟨a, q, by omega, rfl, rfl, e4, ev, rfl, rfl⟩⟩
theorem L_loses (x1 x2 : Int32) (cT_present_kind : Nat → Int32) (cT_present_above : Nat → Int32) (cT_present_edge : Nat → Int32) (cT_present_pool : Nat → Int32) (cT_present_store : Nat → Int32) (cT_present_spot : Nat → Int32) (vT_present_basins : Int32) (vT_present_spring : Int32) (vT_present_hour : Int32) (vT_present_z : Int32) (vT_pictured : Int32) (cT_picture_kind : Nat → Int32) (cT_picture_above : Nat → Int32) (cT_picture_edge : Nat → Int32) (cT_picture_pool : Nat → Int32) (cT_picture_store : Nat → Int32) (cT_picture_spot : Nat → Int32) (vT_picture_basins : Int32) (vT_picture_spring : Int32) (vT_picture_hour : Int32) (vT_picture_z : Int32) (cT_told : Nat → Int32) (cT_tape_bytes : Nat → Int32) (vT_tape_size : Int32) (vT_sheets_bits : Nat → Int32) (vT_sheets_size : Nat → Int32) (cT_sheets_numbers : Nat → Nat → Int32) (cM_d : Nat → Int32) (vM_isKept : Int32) (cM_kept : Nat → Int32) (cM_found : Nat → Int32) (cM_tape : Nat → Int32) (vM_taped : Int32) (cM_bitsOf : Nat → Int32) (cM_sizeOf : Nat → Int32) (cM_number : Nat → Int32) (vT_shares_top : Int64) (vT_shares_bottom : Int64) (cT_shares_onTop : Nat → Int64) (cT_shares_onBottom : Nat → Int64) (cT_shares_onFits : Nat → Int32) (cT_shares_keptTop : Nat → Int64) (cT_shares_keptBottom : Nat → Int64) (cT_shares_keptFits : Nat → Int32) (vT_trial_basins : Int32) (vT_trial_spring : Int32) (vT_trial_hour : Int32) (vT_trial_z : Int32) (cT_trial_kind : Nat → Int32) (cT_trial_above : Nat → Int32) (cT_trial_edge : Nat → Int32) (cT_trial_pool : Nat → Int32) (cT_trial_store : Nat → Int32) (cT_trial_spot : Nat → Int32) (vT_flow_kept : Int32) (vT_flow_leaked : Int32) (vT_flow_ranOff : Int32) (vT_flow_uneven : Int32) (vT_flow_keptInAll : Int32) (vT_flow_leakedInAll : Int32) (vT_flow_ranOffInAll : Int32) (cT_flow_width : Nat → Int32) (cT_flow_goesOn : Nat → Int32) (cT_flow_comes : Nat → Int32) (cT_flow_keeps : Nat → Int32) (cT_flow_holds : Nat → Int32) (vM_leaked : Int32) (vM_keptAll : Int32) (vM_offAll : Int32) (vM_up : Int64) (vM_down : Int64) (vM_sharesUp : Int64) (vM_sharesDown : Int64) (vM_onUp : Int64) (vM_onDown : Int64) (vM_great : Int32) (vM_triedOff : Int32) (vM_triedLeaked : Int32) (vM_triedKept : Int32) (cM_path : Nat → Int32) (cM_comesUp : Nat → Int64) (cM_comesDown : Nat → Int64) (cM_f : Nat → Int32) (cM_came : Nat → Int32) (cM_got : Nat → Int32) (cM_held : Nat → Int32) (cM_off : Nat → Int32) (cM_gets : Nat → Int32) (hI : Inv cT_present_kind cT_present_above cT_present_edge cT_present_pool cT_present_store cT_present_spot vT_present_basins vT_present_spring vT_present_hour vT_present_z vT_pictured cT_picture_kind cT_picture_above cT_picture_edge cT_picture_pool cT_picture_store cT_picture_spot vT_picture_basins vT_picture_spring vT_picture_hour vT_picture_z cT_told cT_tape_bytes vT_tape_size vT_sheets_bits vT_sheets_size cT_sheets_numbers cM_d vM_isKept cM_kept cM_found cM_tape vM_taped cM_bitsOf cM_sizeOf cM_number) : ∃ (u : Int32 × (Nat → Int32) × Int64 × Int64 × (Nat → Int64) × (Nat → Int64) × (Nat → Int32) × (Nat → Int64) × (Nat → Int64) × (Nat → Int32) × Int32 × Int32 × Int32 × Int32 × (Nat → Int32) × (Nat → Int32) × (Nat → Int32) × (Nat → Int32) × (Nat → Int32) × (Nat → Int32) × Int32 × Int32 × Int32 × Int32 × Int32 × Int32 × Int32 × (Nat → Int32) × (Nat → Int32) × (Nat → Int32) × (Nat → Int32) × (Nat → Int32)) (v : Int32 × Int32 × Int32 × Int32 × Int64 × Int64 × Int64 × Int64 × Int64 × Int64 × Int32 × Int32 × Int32 × Int32 × (Nat → Int32) × (Nat → Int32) × (Nat → Int32) × (Nat → Int64) × (Nat → Int64) × (Nat → Int32) × (Nat → Int32) × (Nat → Int32) × (Nat → Int32) × (Nat → Int32) × (Nat → Int32)), f_X7_loses x1 x2 vT_present_basins vT_present_spring vT_present_hour vT_present_z cT_told vT_shares_top vT_shares_bottom cT_present_above cT_shares_onTop cT_shares_onBottom cT_shares_onFits cT_present_edge cT_present_kind cT_shares_keptTop cT_shares_keptBottom cT_shares_keptFits vT_trial_basins vT_trial_spring vT_trial_hour vT_trial_z cT_trial_kind cT_trial_above cT_trial_edge cT_present_pool cT_trial_pool cT_present_store cT_trial_store cT_present_spot cT_trial_spot vT_flow_kept vT_flow_leaked vT_flow_ranOff vT_flow_uneven vT_flow_keptInAll vT_flow_leakedInAll vT_flow_ranOffInAll cT_flow_width cT_flow_goesOn cT_flow_comes cT_flow_keeps cT_flow_holds = some u ∧ f_X8_loses x1 x2 vM_leaked vM_keptAll vM_offAll vM_up vM_down vM_sharesUp vM_sharesDown vM_onUp vM_onDown vM_great vM_triedOff vM_triedLeaked vM_triedKept cM_d cM_found cM_path cM_comesUp cM_comesDown cM_f cM_came cM_got cM_held cM_off cM_gets = some v ∧ u.1 = v.1 ∧ Inv cT_present_kind cT_present_above cT_present_edge cT_present_pool cT_present_store cT_present_spot vT_present_basins vT_present_spring vT_present_hour vT_present_z vT_pictured cT_picture_kind cT_picture_above cT_picture_edge cT_picture_pool cT_picture_store cT_picture_spot vT_picture_basins vT_picture_spring vT_picture_hour vT_picture_z u.2.1 cT_tape_bytes vT_tape_size vT_sheets_bits vT_sheets_size cT_sheets_numbers v.2.2.2.2.2.2.2.2.2.2.2.2.2.2.1 vM_isKept cM_kept v.2.2.2.2.2.2.2.2.2.2.2.2.2.2.2.1 cM_tape vM_taped cM_bitsOf cM_sizeOf cM_number := by
  obtain ⟨⟨f, hV, hC, hM⟩, hI2, hT, hP, hS⟩ := hI
  have hF : RF cT_present_kind cT_present_above cT_present_edge cT_present_pool cT_present_store cT_present_spot vT_present_basins vT_present_spring vT_present_hour vT_present_z cM_d := ⟨f, hV, hC, hM⟩
  have hn : f.n ≤ 10 := hV.1
  have hG : VG f := VG_of hV
  obtain rfl := hC.1
  obtain rfl := hC.2.1
  obtain rfl := hC.2.2.1
  have hh : f.hr ≤ 9999 := hV.2.2.2.1
  have h71 : f_X7_within x2 (1 : Int32) (100 : Int32) = some (kI (rg 1 100 x2)) := within_n (by decide) (by decide) x2
  have h81 : f_X8_in x2.toInt64 (1 : Int64) (100 : Int64) = some (kI (rg 1 100 x2)) := in_n (by decide) rfl rfl x2
  unfold f_X7_loses f_X8_loses
  rw [bd_t (isB7 (by omega) x1), bd_t (isB8 (by omega) hM.1 x1), br_kI, br_kI]
  by_cases hb : isb f.n x1
  rotate_left
  · rw [br_f1 hb, br_f1 hb, bd_t (tell0 _), bd_t (finds0 _)]
    exact ⟨_, _, rfl, rfl, rfl, hF, hI2, RT_tell hT 0, hP, hS⟩
  rw [br_t1 hb, br_t1 hb, bd_t h71, bd_t h81, br_kI, br_kI]
  by_cases hw : rg 1 100 x2
  rotate_left
  · rw [br_f1 hw, br_f1 hw, bd_t (tell0 _), bd_t (finds0 _)]
    exact ⟨_, _, rfl, rfl, rfl, hF, hI2, RT_tell hT 0, hP, hS⟩
  rw [br_t1 hw, br_t1 hw]
  obtain ⟨b, hb, rfl⟩ := hb
  obtain ⟨k, hk1, hk, rfl⟩ := hw
  rw [bd_t (late7 hh (by omega)), bd_t (late8 hh (by omega) hM.2.1)]
  by_cases hl : 9999 < f.hr + k
  · rw [kI_t hl, br_f1 (by decide), br_f1 (by decide), bd_t (tell4 _), bd_t (finds4 _)]
    exact ⟨_, _, rfl, rfl, rfl, hF, hI2, RT_tell hT 4, hP, hS⟩
  have v : vp_in (nI b) 10 := vp_in_nI (by omega) (by decide)
  obtain ⟨t, u, oT, oB, oF, kT, kB, kF, hR, -, hK⟩ := reck7 hG (fun o ho => (hC.2.2.2.2.1 o ho).2.1) (fun o ho => (hC.2.2.2.2.1 o ho).2.2.1) (fun o ho => (hC.2.2.2.2.1 o ho).1) vT_shares_top vT_shares_bottom cT_shares_onTop cT_shares_onBottom cT_shares_onFits cT_shares_keptTop cT_shares_keptBottom cT_shares_keptFits
  obtain ⟨⟨w1, w2, w3, w4, w5, w6, w7, w8, w9, w10, w11⟩, hW, hWv⟩ := isShare8 hG hM hb vM_up vM_down vM_sharesUp vM_sharesDown vM_onUp vM_onDown vM_great cM_path cM_comesUp cM_comesDown
  dsimp only at hWv
  rw [kI_f hl, br_t1 rfl, br_t1 rfl, bd_t hR, bd_t hW]
  dsimp only
  rw [gd_t v, nm_q, gd_t v, nI_clamp (show b < 2 ^ 31 by omega)]
  have hKb := hK b hb
  rcases hWv with ⟨rfl, h2⟩ | ⟨rfl, r, h2, hv, rfl, rfl⟩
  · rcases hKb with ⟨r, h3, -, -, -⟩ | ⟨-, h3⟩
    · rw [h2] at h3; cases h3
    · rw [h3, br_t1 rfl, br_t1 rfl, bd_t (tell6 _), bd_t (finds6 _)]
      exact ⟨_, _, rfl, rfl, rfl, hF, hI2, RT_tell hT 6, hP, hS⟩
  rcases hKb with ⟨r', h3, h4, h5, h6⟩ | ⟨h3, -⟩
  rotate_left
  · rw [h2] at h3; cases h3
  rw [h2] at h3
  injection h3 with h3
  subst h3
  have b1 := hv.2.1
  have b2 := hv.2.2
  have b3 := hv.1.2
  have hsg5 : f.sg ≤ 99999 := hV.2.2.1
  have hgt : 0 < lg_cmp (lN r.2) (0 : Int64) := (lgc_N (b := 0) (by omega) (by decide)).1.mpr b3
  have hnz : ¬ lN r.2 = (0 : Int64) := fun z => absurd ((pk_lEQ (b := 0) (by omega) (by decide)).mp z) (by omega)
  have hprod : f.sg * k ≤ 99999 * 100 := Nat.mul_le_mul hsg5 (by omega)
  obtain ⟨tk', ta', te', tp', ts', tt', hSt, hCt⟩ := start_e hn hC vT_trial_basins vT_trial_spring vT_trial_hour vT_trial_z cT_trial_kind cT_trial_above cT_trial_edge cT_trial_pool cT_trial_store cT_trial_spot
  obtain ⟨vk', vl', vr', vu', w', g', c', k', p', h', s', hp, hpv⟩ := pass_e2 hG hCt (k := k) (by omega) vT_flow_kept vT_flow_leaked vT_flow_ranOff vT_flow_uneven vT_flow_keptInAll vT_flow_leakedInAll vT_flow_ranOffInAll cT_flow_width cT_flow_goesOn cT_flow_comes cT_flow_keeps cT_flow_holds
  obtain ⟨wl, wk, wo, d', F', c2, g2, h2', o2, gs, hT8, hd, hg⟩ := tries_e hG hM (k := k) (by omega) vM_leaked vM_keptAll vM_offAll vM_triedOff vM_triedLeaked vM_triedKept cM_f cM_came cM_got cM_held cM_off cM_gets
  have hMd := MF_cong hn hM hd
  have hd3 : d' 3 = nI f.sg := hMd.2.2.2.1
  rw [h4, h5, h6, br_f1 (show ¬ (1 : Int32) = 0 by decide), br_f1 (show ¬ (1 : Int32) = 0 by decide), br_t1 hgt, nm_q, gd_t v, gd_t hnz, nm_q, bd_t hSt, bd_t hT8]
  dsimp only
  rw [bd_t hp, gd_t hnz]
  dsimp only
  rw [bd_t (gain_e (f := f) (k := k) hn hb (hpv _ hb).2.1 (hC.2.2.2.2.1 _ hb).2.2.2.2), show d' (3 : Int32).toNatClampNeg = nI f.sg from hd3, pk_mul, nI_l (n := f.sg * k) (by omega), nI_l (n := f.sg) (by omega), nI_l (n := k) (by omega), lN_mul, lN_mul, lN_mul, Nat.mul_comm r.1 (f.sg * k), gd_t v, hg b hb]
  exact ⟨_, _, rfl, rfl, rfl, ⟨f, hV, hC, hMd⟩, hI2, hT, hP, hS⟩
