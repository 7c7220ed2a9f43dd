/-! ===== how the law lays its basins ===== -/
theorem ush_n {c : Nat} (hc : c < 2 ^ 31) (k : Nat) (hk : k < 31) (e : (((nI k).toUInt32 &&& Int32.toUInt32 31).toBitVec % 32).toNat = k) : ((nI c).toUInt32 >>> ((nI k).toUInt32 &&& Int32.toUInt32 31)).toInt32 = nI (c / 2 ^ k) ∧ c / 2 ^ k < 2 ^ 31 := ⟨pk_ushrN (n := c) (by omega) (nI k) k e, Nat.lt_of_le_of_lt (Nat.div_le_self _ _) hc⟩
theorem rem_n {c d : Nat} (hc : c < 2 ^ 31) (h0 : 0 < d) (hd : d < 2 ^ 31) : nI c - nI c / nI d * nI d = nI (c % d) := pk_rem hc h0 hd
theorem j215 {f : Fo} {cT_present_spot : Nat → Int32} {vT_present_hour : Int32} {vT_present_z : Int32} {L : Nat} {xs : Nat → Int32} {x2 : Int32} {x3 : Int32} {rc23 : (Int32 × Int32 × Int32 × Int32 × (Nat → Int32) × (Nat → Int32) × (Nat → Int32) × (Nat → Int32) × (Nat → Int32) × (Nat → Int32) × Int32 × Int32 × (Nat → Int32) × (Nat → Int32) × (Nat → Int32) × (Nat → Int32) × (Nat → Int32)) → Option (Int32 × Int32 × (Nat → Int32) × (Nat → Int32) × (Nat → Int32) × (Nat → Int32) × (Nat → Int32) × (Nat → Int32) × Int32 × Int32 × (Nat → Int32) × (Nat → Int32) × (Nat → Int32) × (Nat → Int32) × (Nat → Int32))} {y5 : Int32} {y6 : Int32} {t1 : Int32} {t2 : Int32} {vT_present_basins : Int32} {vT_present_spring : Int32} {cT_told : Nat → Int32} {cT_present_kind : Nat → Int32} {cT_present_above : Nat → Int32} {cT_present_edge : Nat → Int32} {cT_present_pool : Nat → Int32} {cT_present_store : Nat → Int32} {vG_n : Int32} {vG_spring : Int32} {cG_kind : Nat → Int32} {cG_below : Nat → Int32} {cG_edge : Nat → Int32} {cG_pool : Nat → Int32} {cG_store : Nat → Int32} {i p : Nat} (hV : VF f) (hC : CF f cT_present_kind cT_present_above cT_present_edge cT_present_pool cT_present_store cT_present_spot vT_present_basins vT_present_spring vT_present_hour vT_present_z) (hi : i < 10) (hp : p ≤ 30) (hn1 : f.n = i + 1) (hsg : f.sg = 81) (hhr : f.hr = 0) (hpo : f.po i = 0) (h6 : y6 = nI i) (ht1 : t1 = nI i) (ht2 : t2 = nI p) (hg : vG_n = nI (i + 1)) : ∃ s1 : Int32 × Int32 × Int32 × Int32 × (Nat → Int32) × (Nat → Int32) × (Nat → Int32) × (Nat → Int32) × (Nat → Int32) × (Nat → Int32) × Int32 × Int32 × (Nat → Int32) × (Nat → Int32) × (Nat → Int32) × (Nat → Int32) × (Nat → Int32), (s1.1 = y5 ∧ s1.2.1 = nI (i + 1) ∧ s1.2.2.2.2.2.2.2.2.2.2.1 = nI (i + 1) ∧ ∃ g, VF g ∧ g.n = i + 1 ∧ g.sg = 81 ∧ g.hr = 0 ∧ CF (g) s1.2.2.2.2.2.1 s1.2.2.2.2.2.2.1 s1.2.2.2.2.2.2.2.1 s1.2.2.2.2.2.2.2.2.1 s1.2.2.2.2.2.2.2.2.2.1 cT_present_spot s1.2.2.1 s1.2.2.2.1 vT_present_hour vT_present_z) ∧ f_L_lay9_J215 L xs x2 x3 rc23 y5 y6 t1 t2 vT_present_basins vT_present_spring cT_told cT_present_kind cT_present_above cT_present_edge cT_present_pool cT_present_store vG_n vG_spring cG_kind cG_below cG_edge cG_pool cG_store = rc23 s1
  := by
  subst h6 ht1 ht2
  have v : vp_in (nI i) 10 := vp_in_nI hi (by decide)
  unfold f_L_lay9_J215
  rw [gd_t v, gd_t v, nI_clamp (by omega), pk_us]
  by_cases h0 : p = 0
  · rw [br_t1 (show nI p ≤ 0 by rw [h0]; decide)]
    refine ⟨_, ?_, rfl⟩
    exact ⟨rfl, nI_1 i, hg, f, hV, hn1, hsg, hhr, hC⟩
  · rw [br_f1 (nI_nle (by omega) (by omega)), gd_t v]
    obtain ⟨u1, h11, h12, h13⟩ := S_chg3 (j := i) (w := p) hV hC (by omega) hp
    rw [bd_t (show f_X7_change (nI i) (3 : Int32) (nI p) _ _ _ _ _ _ = _ from h11), br_t1 (by rw [h12, hpo]; rfl)]
    refine ⟨_, ?_, rfl⟩
    exact ⟨rfl, nI_1 i, hg, f.setPo i p, VF_Po hV i hp, hn1, hsg, hhr, h13⟩
theorem j175 {f : Fo} {cT_present_spot : Nat → Int32} {vT_present_hour : Int32} {vT_present_z : Int32} {L : Nat} {xs : Nat → Int32} {x2 : Int32} {x3 : Int32} {rc23 : (Int32 × Int32 × Int32 × Int32 × (Nat → Int32) × (Nat → Int32) × (Nat → Int32) × (Nat → Int32) × (Nat → Int32) × (Nat → Int32) × Int32 × Int32 × (Nat → Int32) × (Nat → Int32) × (Nat → Int32) × (Nat → Int32) × (Nat → Int32)) → Option (Int32 × Int32 × (Nat → Int32) × (Nat → Int32) × (Nat → Int32) × (Nat → Int32) × (Nat → Int32) × (Nat → Int32) × Int32 × Int32 × (Nat → Int32) × (Nat → Int32) × (Nat → Int32) × (Nat → Int32) × (Nat → Int32))} {y5 : Int32} {y6 : Int32} {y7 : Int32} {y8 : Int32} {y9 : Int32} {y10 : Int32} {vT_present_basins : Int32} {vT_present_spring : Int32} {cT_told : Nat → Int32} {cT_present_kind : Nat → Int32} {cT_present_above : Nat → Int32} {cT_present_edge : Nat → Int32} {cT_present_pool : Nat → Int32} {cT_present_store : Nat → Int32} {vG_n : Int32} {vG_spring : Int32} {cG_kind : Nat → Int32} {cG_below : Nat → Int32} {cG_edge : Nat → Int32} {cG_pool : Nat → Int32} {cG_store : Nat → Int32} {i c : Nat} (hV : VF f) (hC : CF f cT_present_kind cT_present_above cT_present_edge cT_present_pool cT_present_store cT_present_spot vT_present_basins vT_present_spring vT_present_hour vT_present_z) (hi : i < 10) (hc : c < 2 ^ 31) (hn1 : f.n = i + 1) (hsg : f.sg = 81) (hhr : f.hr = 0) (hpo : f.po i = 0) (h6 : y6 = nI i) (h7 : y7 = nI c) (hg : vG_n = nI i) : ∃ s1 : Int32 × Int32 × Int32 × Int32 × (Nat → Int32) × (Nat → Int32) × (Nat → Int32) × (Nat → Int32) × (Nat → Int32) × (Nat → Int32) × Int32 × Int32 × (Nat → Int32) × (Nat → Int32) × (Nat → Int32) × (Nat → Int32) × (Nat → Int32), (s1.1 = y5 ∧ s1.2.1 = nI (i + 1) ∧ s1.2.2.2.2.2.2.2.2.2.2.1 = nI (i + 1) ∧ ∃ g, VF g ∧ g.n = i + 1 ∧ g.sg = 81 ∧ g.hr = 0 ∧ CF (g) s1.2.2.2.2.2.1 s1.2.2.2.2.2.2.1 s1.2.2.2.2.2.2.2.1 s1.2.2.2.2.2.2.2.2.1 s1.2.2.2.2.2.2.2.2.2.1 cT_present_spot s1.2.2.1 s1.2.2.2.1 vT_present_hour vT_present_z) ∧ f_L_lay9_J175 L xs x2 x3 rc23 y5 y6 y7 y8 y9 y10 vT_present_basins vT_present_spring cT_told cT_present_kind cT_present_above cT_present_edge cT_present_pool cT_present_store vG_n vG_spring cG_kind cG_below cG_edge cG_pool cG_store = rc23 s1
  := by
  subst h6 h7 hg
  have v : vp_in (nI i) 10 := vp_in_nI hi (by decide)
  obtain ⟨e19, b19⟩ := ush_n hc 19 (by decide) (by decide)
  have e31 := rem_n b19 (d := 31) (by decide) (by decide)
  unfold f_L_lay9_J175 f_X8_add
  rw [gd_t v, gd_t v, gd_t v, gd_t v, gd_t v, bd_t rfl]
  by_cases hb : (((nI c).toUInt32 >>> ((17 : Int32).toUInt32 &&& Int32.toUInt32 31)).toInt32 &&& (3 : Int32)) = 0
  · rw [br_t1 hb]
    exact j215 (f := f) (i := i) (p := c / 2 ^ 19 % 31) hV hC hi (by omega) hn1 hsg hhr hpo rfl rfl (by
      have := e31
      rw [← e19] at this
      exact this) (nI_1 i)
  · rw [br_f1 hb]
    exact j215 (f := f) (i := i) (p := 0) hV hC hi (by omega) hn1 hsg hhr hpo rfl rfl rfl (nI_1 i)
theorem j139 {f : Fo} {cT_present_spot : Nat → Int32} {vT_present_hour : Int32} {vT_present_z : Int32} {L : Nat} {xs : Nat → Int32} {x2 : Int32} {x3 : Int32} {rc23 : (Int32 × Int32 × Int32 × Int32 × (Nat → Int32) × (Nat → Int32) × (Nat → Int32) × (Nat → Int32) × (Nat → Int32) × (Nat → Int32) × Int32 × Int32 × (Nat → Int32) × (Nat → Int32) × (Nat → Int32) × (Nat → Int32) × (Nat → Int32)) → Option (Int32 × Int32 × (Nat → Int32) × (Nat → Int32) × (Nat → Int32) × (Nat → Int32) × (Nat → Int32) × (Nat → Int32) × Int32 × Int32 × (Nat → Int32) × (Nat → Int32) × (Nat → Int32) × (Nat → Int32) × (Nat → Int32))} {y5 : Int32} {y6 : Int32} {y7 : Int32} {y8 : Int32} {y9 : Int32} {t0 : Int32} {vT_present_basins : Int32} {vT_present_spring : Int32} {cT_told : Nat → Int32} {cT_present_kind : Nat → Int32} {cT_present_above : Nat → Int32} {cT_present_edge : Nat → Int32} {cT_present_pool : Nat → Int32} {cT_present_store : Nat → Int32} {vG_n : Int32} {vG_spring : Int32} {cG_kind : Nat → Int32} {cG_below : Nat → Int32} {cG_edge : Nat → Int32} {cG_pool : Nat → Int32} {cG_store : Nat → Int32} {i c k a e : Nat} (hV : VF f) (hC : CF f cT_present_kind cT_present_above cT_present_edge cT_present_pool cT_present_store cT_present_spot vT_present_basins vT_present_spring vT_present_hour vT_present_z) (hi : i < 10) (hc : c < 2 ^ 31) (hk : k ≤ 6) (ha : i ≠ 0 → a < i) (he1 : 1 ≤ e) (he : e ≤ 9) (hn1 : f.n = i) (hsg : f.sg = 81) (hhr : f.hr = 0) (h6 : y6 = nI i) (h7 : y7 = nI c) (h8 : y8 = nI k) (h9 : y9 = if i = 0 then -1 else nI a) (ht : t0 = nI e) (hg : vG_n = nI i) : ∃ s1 : Int32 × Int32 × Int32 × Int32 × (Nat → Int32) × (Nat → Int32) × (Nat → Int32) × (Nat → Int32) × (Nat → Int32) × (Nat → Int32) × Int32 × Int32 × (Nat → Int32) × (Nat → Int32) × (Nat → Int32) × (Nat → Int32) × (Nat → Int32), (s1.1 = y5 ∧ s1.2.1 = nI (i + 1) ∧ s1.2.2.2.2.2.2.2.2.2.2.1 = nI (i + 1) ∧ ∃ g, VF g ∧ g.n = i + 1 ∧ g.sg = 81 ∧ g.hr = 0 ∧ CF (g) s1.2.2.2.2.2.1 s1.2.2.2.2.2.2.1 s1.2.2.2.2.2.2.2.1 s1.2.2.2.2.2.2.2.2.1 s1.2.2.2.2.2.2.2.2.2.1 cT_present_spot s1.2.2.1 s1.2.2.2.1 vT_present_hour vT_present_z) ∧ f_L_lay9_J139 L xs x2 x3 rc23 y5 y6 y7 y8 y9 t0 vT_present_basins vT_present_spring cT_told cT_present_kind cT_present_above cT_present_edge cT_present_pool cT_present_store vG_n vG_spring cG_kind cG_below cG_edge cG_pool cG_store = rc23 s1
  := by
  subst h8 ht
  subst hn1
  have hx : y9 = abI (fset f.ab f.n a) f.n := by
    rw [h9]
    unfold abI
    rw [fset_s]
  have hV1 : VF (f.addB k a) := VF_addB hV hi hk ha
  have hpo : (f.addB k a).po f.n = 0 := fset_s
  unfold f_L_lay9_J139
  obtain ⟨u1, h11, h12, h13⟩ := S_basin (k := k) (a := a) (x2 := y9) hV hC hk hi ha hx
  rw [bd_t h11, br_t1 (by rw [h12, h6])]
  by_cases h1 : e = 1
  · rw [br_t1 (show nI e ≤ (1 : Int32) by rw [h1]; decide)]
    exact j175 (f := f.addB k a) (i := f.n) (c := c) hV1 h13 hi hc rfl hsg hhr hpo h6 h7 hg
  · rw [br_f1 (show ¬ nI e ≤ (1 : Int32) from nI_ge (a := 1) (by omega) (by omega)), h6]
    obtain ⟨u2, h21, h22, h23⟩ := S_chg2 (j := f.n) (w := e) hV1 h13 (Nat.lt_succ_self _) he1 he
    rw [bd_t (show f_X7_change (nI f.n) (2 : Int32) (nI e) _ _ _ _ _ _ = _ from h21), br_t1 (by rw [h22]; exact congrArg nI (fset_s (g := f.ed) (b := f.n) (v := 1)))]
    exact j175 (f := (f.addB k a).setEd f.n e) (i := f.n) (c := c) (VF_Ed hV1 _ he1 he) h23 hi hc rfl hsg hhr hpo rfl h7 hg
theorem j113 {f : Fo} {cT_present_spot : Nat → Int32} {vT_present_hour : Int32} {vT_present_z : Int32} {L : Nat} {xs : Nat → Int32} {x2 : Int32} {x3 : Int32} {rc23 : (Int32 × Int32 × Int32 × Int32 × (Nat → Int32) × (Nat → Int32) × (Nat → Int32) × (Nat → Int32) × (Nat → Int32) × (Nat → Int32) × Int32 × Int32 × (Nat → Int32) × (Nat → Int32) × (Nat → Int32) × (Nat → Int32) × (Nat → Int32)) → Option (Int32 × Int32 × (Nat → Int32) × (Nat → Int32) × (Nat → Int32) × (Nat → Int32) × (Nat → Int32) × (Nat → Int32) × Int32 × Int32 × (Nat → Int32) × (Nat → Int32) × (Nat → Int32) × (Nat → Int32) × (Nat → Int32))} {y5 : Int32} {y6 : Int32} {y7 : Int32} {y8 : Int32} {t0 : Int32} {vT_present_basins : Int32} {vT_present_spring : Int32} {cT_told : Nat → Int32} {cT_present_kind : Nat → Int32} {cT_present_above : Nat → Int32} {cT_present_edge : Nat → Int32} {cT_present_pool : Nat → Int32} {cT_present_store : Nat → Int32} {vG_n : Int32} {vG_spring : Int32} {cG_kind : Nat → Int32} {cG_below : Nat → Int32} {cG_edge : Nat → Int32} {cG_pool : Nat → Int32} {cG_store : Nat → Int32} {i c k a : Nat} (hV : VF f) (hC : CF f cT_present_kind cT_present_above cT_present_edge cT_present_pool cT_present_store cT_present_spot vT_present_basins vT_present_spring vT_present_hour vT_present_z) (hi : i < 10) (hc : c < 2 ^ 31) (hk : k ≤ 6) (ha : i ≠ 0 → a < i) (hn1 : f.n = i) (hsg : f.sg = 81) (hhr : f.hr = 0) (h6 : y6 = nI i) (h7 : y7 = nI c) (h8 : y8 = nI k) (h9 : t0 = if i = 0 then -1 else nI a) (hg : vG_n = nI i) : ∃ s1 : Int32 × Int32 × Int32 × Int32 × (Nat → Int32) × (Nat → Int32) × (Nat → Int32) × (Nat → Int32) × (Nat → Int32) × (Nat → Int32) × Int32 × Int32 × (Nat → Int32) × (Nat → Int32) × (Nat → Int32) × (Nat → Int32) × (Nat → Int32), (s1.1 = y5 ∧ s1.2.1 = nI (i + 1) ∧ s1.2.2.2.2.2.2.2.2.2.2.1 = nI (i + 1) ∧ ∃ g, VF g ∧ g.n = i + 1 ∧ g.sg = 81 ∧ g.hr = 0 ∧ CF (g) s1.2.2.2.2.2.1 s1.2.2.2.2.2.2.1 s1.2.2.2.2.2.2.2.1 s1.2.2.2.2.2.2.2.2.1 s1.2.2.2.2.2.2.2.2.2.1 cT_present_spot s1.2.2.1 s1.2.2.2.1 vT_present_hour vT_present_z) ∧ f_L_lay9_J113 L xs x2 x3 rc23 y5 y6 y7 y8 t0 vT_present_basins vT_present_spring cT_told cT_present_kind cT_present_above cT_present_edge cT_present_pool cT_present_store vG_n vG_spring cG_kind cG_below cG_edge cG_pool cG_store = rc23 s1
  := by
  unfold f_L_lay9_J113
  obtain ⟨e13, b13⟩ := ush_n hc 13 (by decide) (by decide)
  have r9 := rem_n b13 (d := 9) (by decide) (by decide)
  by_cases hb : ((y7.toUInt32 >>> ((12 : Int32).toUInt32 &&& Int32.toUInt32 31)).toInt32 &&& (1 : Int32)) = 0
  · rw [br_t1 hb]
    exact j139 (f := f) (i := i) (c := c) (k := k) (a := a) (e := 1) hV hC hi hc hk ha (by decide) (by decide) hn1 hsg hhr h6 h7 h8 h9 rfl hg
  · rw [br_f1 hb]
    exact j139 (f := f) (i := i) (c := c) (k := k) (a := a) (e := 1 + c / 2 ^ 13 % 9) hV hC hi hc hk ha (by omega) (by omega) hn1 hsg hhr h6 h7 h8 h9 (by
      have := r9
      rw [← e13] at this
      rw [h7, ← nI_add, ← this]
      rfl) hg
theorem j77 {f : Fo} {cT_present_spot : Nat → Int32} {vT_present_hour : Int32} {vT_present_z : Int32} {L : Nat} {xs : Nat → Int32} {x2 : Int32} {x3 : Int32} {rc23 : (Int32 × Int32 × Int32 × Int32 × (Nat → Int32) × (Nat → Int32) × (Nat → Int32) × (Nat → Int32) × (Nat → Int32) × (Nat → Int32) × Int32 × Int32 × (Nat → Int32) × (Nat → Int32) × (Nat → Int32) × (Nat → Int32) × (Nat → Int32)) → Option (Int32 × Int32 × (Nat → Int32) × (Nat → Int32) × (Nat → Int32) × (Nat → Int32) × (Nat → Int32) × (Nat → Int32) × Int32 × Int32 × (Nat → Int32) × (Nat → Int32) × (Nat → Int32) × (Nat → Int32) × (Nat → Int32))} {y5 : Int32} {y6 : Int32} {y7 : Int32} {t0 : Int32} {vT_present_basins : Int32} {vT_present_spring : Int32} {cT_told : Nat → Int32} {cT_present_kind : Nat → Int32} {cT_present_above : Nat → Int32} {cT_present_edge : Nat → Int32} {cT_present_pool : Nat → Int32} {cT_present_store : Nat → Int32} {vG_n : Int32} {vG_spring : Int32} {cG_kind : Nat → Int32} {cG_below : Nat → Int32} {cG_edge : Nat → Int32} {cG_pool : Nat → Int32} {cG_store : Nat → Int32} {i c k : Nat} (hV : VF f) (hC : CF f cT_present_kind cT_present_above cT_present_edge cT_present_pool cT_present_store cT_present_spot vT_present_basins vT_present_spring vT_present_hour vT_present_z) (hi : i < 10) (hc : c < 2 ^ 31) (hk : k ≤ 6) (hn1 : f.n = i) (hsg : f.sg = 81) (hhr : f.hr = 0) (h6 : y6 = nI i) (h7 : y7 = nI c) (h8 : t0 = nI k) (hg : vG_n = nI i) : ∃ s1 : Int32 × Int32 × Int32 × Int32 × (Nat → Int32) × (Nat → Int32) × (Nat → Int32) × (Nat → Int32) × (Nat → Int32) × (Nat → Int32) × Int32 × Int32 × (Nat → Int32) × (Nat → Int32) × (Nat → Int32) × (Nat → Int32) × (Nat → Int32), (s1.1 = y5 ∧ s1.2.1 = nI (i + 1) ∧ s1.2.2.2.2.2.2.2.2.2.2.1 = nI (i + 1) ∧ ∃ g, VF g ∧ g.n = i + 1 ∧ g.sg = 81 ∧ g.hr = 0 ∧ CF (g) s1.2.2.2.2.2.1 s1.2.2.2.2.2.2.1 s1.2.2.2.2.2.2.2.1 s1.2.2.2.2.2.2.2.2.1 s1.2.2.2.2.2.2.2.2.2.1 cT_present_spot s1.2.2.1 s1.2.2.2.1 vT_present_hour vT_present_z) ∧ f_L_lay9_J77 L xs x2 x3 rc23 y5 y6 y7 t0 vT_present_basins vT_present_spring cT_told cT_present_kind cT_present_above cT_present_edge cT_present_pool cT_present_store vG_n vG_spring cG_kind cG_below cG_edge cG_pool cG_store = rc23 s1
  := by
  unfold f_L_lay9_J77
  obtain ⟨e7, b7⟩ := ush_n hc 7 (by decide) (by decide)
  by_cases h0 : i = 0
  · rw [br_t1 (show y6 = 0 by rw [h6, h0]; rfl)]
    exact j113 (f := f) (i := i) (c := c) (k := k) (a := 0) hV hC hi hc hk (fun q => absurd h0 q) hn1 hsg hhr h6 h7 h8 (if_pos h0).symm hg
  · have hz : ¬ y6 = 0 := by rw [h6]; exact nI_ne 0 0 h0
    rw [br_f1 hz]
    by_cases hb : ((y7.toUInt32 >>> ((6 : Int32).toUInt32 &&& Int32.toUInt32 31)).toInt32 &&& (1 : Int32)) = 0
    · rw [br_t1 hb]
      exact j113 (f := f) (i := i) (c := c) (k := k) (a := i - 1) hV hC hi hc hk (fun _ => by omega) hn1 hsg hhr h6 h7 h8 (by
        rw [if_neg h0, h6]
        exact pk_sub (b := 1) (by omega)) hg
    · rw [br_f1 hb, gd_t hz]
      have ri := rem_n b7 (d := i) (by omega) (by omega)
      exact j113 (f := f) (i := i) (c := c) (k := k) (a := c / 2 ^ 7 % i) hV hC hi hc hk (fun _ => Nat.mod_lt _ (by omega)) hn1 hsg hhr h6 h7 h8 (by
        have := ri
        rw [← e7] at this
        rw [if_neg h0, ← this, h6, h7]
        rfl) hg
theorem j291 {f : Fo} {cT_present_spot : Nat → Int32} {vT_present_hour : Int32} {vT_present_z : Int32} {L : Nat} {xs : Nat → Int32} {x2 : Int32} {x3 : Int32} {t1 : Int32} {vT_present_basins : Int32} {vT_present_spring : Int32} {cT_told : Nat → Int32} {cT_present_kind : Nat → Int32} {cT_present_above : Nat → Int32} {cT_present_edge : Nat → Int32} {cT_present_pool : Nat → Int32} {cT_present_store : Nat → Int32} {vG_n : Int32} {vG_spring : Int32} {cG_kind : Nat → Int32} {cG_below : Nat → Int32} {cG_edge : Nat → Int32} {cG_pool : Nat → Int32} {cG_store : Nat → Int32} {v : Nat} (hV : VF f) (hC : CF f cT_present_kind cT_present_above cT_present_edge cT_present_pool cT_present_store cT_present_spot vT_present_basins vT_present_spring vT_present_hour vT_present_z) (hv : v ≤ 99999) (ht : t1 = nI v) (h81 : f.sg = 81) (hg : vG_n = nI f.n) (h6 : f.n ≤ 6) (hh : f.hr = 0) : ∃ u : Int32 × Int32 × (Nat → Int32) × (Nat → Int32) × (Nat → Int32) × (Nat → Int32) × (Nat → Int32) × (Nat → Int32) × Int32 × Int32 × (Nat → Int32) × (Nat → Int32) × (Nat → Int32) × (Nat → Int32) × (Nat → Int32), f_L_lay9_J291 L xs x2 x3 t1 vT_present_basins vT_present_spring cT_told cT_present_kind cT_present_above cT_present_edge cT_present_pool cT_present_store vG_n vG_spring cG_kind cG_below cG_edge cG_pool cG_store = some u ∧ (∃ g, VF g ∧ g.n ≤ 6 ∧ g.hr = 0 ∧ u.2.2.2.2.2.2.2.2.1 = nI g.n ∧ CF (g) u.2.2.2.1 u.2.2.2.2.1 u.2.2.2.2.2.1 u.2.2.2.2.2.2.1 u.2.2.2.2.2.2.2.1 cT_present_spot u.1 u.2.1 vT_present_hour vT_present_z)
  := by
  subst ht
  unfold f_L_lay9_J291
  refine bd_ex _ (S_spring hV hC hv) (fun u1 h1 => ?_)
  obtain ⟨h11, h12⟩ := h1
  rw [br_t1 (by rw [h11, h81]; rfl)]
  exact ⟨_, rfl, f.setSg v, VF_Sg hV hv, h6, hh, hg, h12⟩
theorem P_lay {f : Fo} {vT_present_basins : Int32} {vT_present_spring : Int32} {cT_told : Nat → Int32} {cT_present_kind : Nat → Int32} {cT_present_above : Nat → Int32} {cT_present_edge : Nat → Int32} {cT_present_pool : Nat → Int32} {cT_present_store : Nat → Int32} {vG_n : Int32} {vG_spring : Int32} {cG_kind : Nat → Int32} {cG_below : Nat → Int32} {cG_edge : Nat → Int32} {cG_pool : Nat → Int32} {cG_store : Nat → Int32} {cT_present_spot : Nat → Int32} {vT_present_hour : Int32} {vT_present_z : Int32} {L : Nat} {xs : Nat → Int32} (hV : VF f) (hC : CF f cT_present_kind cT_present_above cT_present_edge cT_present_pool cT_present_store cT_present_spot vT_present_basins vT_present_spring vT_present_hour vT_present_z) (hL : L ≤ 260) (h0 : f.n = 0) (h81 : f.sg = 81) (hh0 : f.hr = 0) (hGn : vG_n = 0) : ∃ u : Int32 × Int32 × (Nat → Int32) × (Nat → Int32) × (Nat → Int32) × (Nat → Int32) × (Nat → Int32) × (Nat → Int32) × Int32 × Int32 × (Nat → Int32) × (Nat → Int32) × (Nat → Int32) × (Nat → Int32) × (Nat → Int32), f_L_lay9 L xs 0 6 vT_present_basins vT_present_spring cT_told cT_present_kind cT_present_above cT_present_edge cT_present_pool cT_present_store vG_n vG_spring cG_kind cG_below cG_edge cG_pool cG_store = some u ∧ (∃ g, VF g ∧ g.n ≤ 6 ∧ g.hr = 0 ∧ u.2.2.2.2.2.2.2.2.1 = nI g.n ∧ CF (g) u.2.2.2.1 u.2.2.2.2.1 u.2.2.2.2.2.1 u.2.2.2.2.2.2.1 u.2.2.2.2.2.2.2.1 cT_present_spot u.1 u.2.1 vT_present_hour vT_present_z)
  := by
  obtain ⟨m, hm, em⟩ := cell_e (xs := xs) hL (k := 0) (by decide)
  have r7 := rem_n hm (d := 7) (by decide) (by decide)
  unfold f_L_lay9
  rw [bd_t (show f_L_cell L xs 0 = _ from em), gd_t (by decide), show (6 : Int32) + 1 = nI 7 from rfl, r7, nm_q]
  unfold f_L_lay9_L23
  refine lp_go3 (m % 7) (fun i s => s.1 = nI (m % 7) ∧ s.2.1 = nI i ∧ s.2.2.2.2.2.2.2.2.2.2.1 = nI i ∧ ∃ g, VF g ∧ g.n = i ∧ g.sg = 81 ∧ g.hr = 0 ∧ CF (g) s.2.2.2.2.2.1 s.2.2.2.2.2.2.1 s.2.2.2.2.2.2.2.1 s.2.2.2.2.2.2.2.2.1 s.2.2.2.2.2.2.2.2.2.1 cT_present_spot s.2.2.1 s.2.2.2.1 vT_present_hour vT_present_z) ⟨rfl, rfl, hGn, f, hV, h0, h81, hh0, hC⟩ (FU_gt (by omega)) ?_
  clear hV hC h0 h81 hh0 hGn
  rintro i s hi ⟨a1, a2, a3, g, hV, hgn, hsg, hhr, hC⟩ rc
  rw [a1, a2]
  unfold f_L_lay9_L23_b
  by_cases hx : i = m % 7
  · left
    rw [br_t1 (nI_le (by omega) (by omega))]
    unfold f_L_lay9_J253
    obtain ⟨c, hc, ec⟩ := cell_e (xs := xs) hL (k := 7) (by decide)
    obtain ⟨e1, b1⟩ := ush_n hc 1 (by decide) (by decide)
    rw [bd_t (show f_L_cell L xs (((0 : Int32) + (1 : Int32)) + (6 : Int32)) = _ from ec)]
    by_cases hb : (nI c &&& (1 : Int32)) = 0
    · rw [br_t1 hb]
      have r := rem_n b1 (d := 400) (by decide) (by decide)
      refine j291 (f := g) (v := c / 2 ^ 1 % 400) hV hC (by omega) ?_ hsg (by rw [a3, hgn]) (by omega) hhr
      have := r
      rw [← e1] at this
      exact this
    · rw [br_f1 hb]
      have r := rem_n b1 (d := 100000) (by decide) (by decide)
      refine j291 (f := g) (v := c / 2 ^ 1 % 100000) hV hC (by omega) ?_ hsg (by rw [a3, hgn]) (by omega) hhr
      have := r
      rw [← e1] at this
      exact this
  · right
    have hi' : i < m % 7 := by omega
    refine ⟨hi', ?_⟩
    rw [br_f1 (nI_ge hi' (by omega))]
    obtain ⟨c, hc, ec⟩ := cell_e (xs := xs) hL (k := 1 + i) (by omega)
    obtain ⟨e2, b2⟩ := ush_n hc 2 (by decide) (by decide)
    have r7 := rem_n b2 (d := 7) (by decide) (by decide)
    have r3 := rem_n b2 (d := 3) (by decide) (by decide)
    rw [show ((0 : Int32) + (1 : Int32)) + nI i = nI (1 + i) from nI_add 1 i, bd_t ec]
    by_cases hb0 : (nI c &&& (3 : Int32)) = 0
    · rw [br_t1 hb0]
      refine ex_imp (j77 (f := g) (i := i) (c := c) (k := c / 2 ^ 2 % 7) hV hC (by omega) hc (by omega) hgn hsg hhr rfl rfl ?_ a3) (fun s1 q => q)
      have := r7
      rw [← e2] at this
      exact this
    · rw [br_f1 hb0]
      by_cases hb1 : (nI c &&& (3 : Int32)) = 1
      · rw [br_t1 hb1]
        refine ex_imp (j77 (f := g) (i := i) (c := c) (k := c / 2 ^ 2 % 3) hV hC (by omega) hc (by omega) hgn hsg hhr rfl rfl ?_ a3) (fun s1 q => q)
        have := r3
        rw [← e2] at this
        exact this
      · rw [br_f1 hb1]
        exact ex_imp (j77 (f := g) (i := i) (c := c) (k := 0) hV hC (by omega) hc (by omega) hgn hsg hhr rfl rfl rfl a3) (fun s1 q => q)
