/-! ===== the calls by naturals, one-sided: what is tried, sheets, chips, shares ===== -/
theorem lp_in3 {σ α τ : Type} {step : (σ → Option α) → σ → Option α} {s0 : σ} {rc : τ → Option α} {Q : α → Prop} {J : τ → Prop} {c : Prop} (hc : c) (n : Nat) (I : Nat → σ → Prop) (i0 : Nat) (hi0 : i0 ≤ n) (h0 : I i0 s0) (hn : n < FU)
    (h : ∀ i s, i ≤ n → I i s → ∀ rd, ((∃ r, step rd s = some r ∧ Q r) ∨ ∃ s', J s' ∧ step rd s = rc s') ∨ (i < n ∧ ∃ s', I (i + 1) s' ∧ step rd s = rd s')) : (∃ r, lp step FU s0 = some r ∧ Q r) ∨ (c ∧ ∃ s', J s' ∧ lp step FU s0 = rc s') := by
  have h2 := lp_inv2 step I n (fun o => (∃ r, o = some r ∧ Q r) ∨ ∃ s', J s' ∧ o = rc s') h (n - i0) i0 s0 FU (Nat.le_refl _) hi0 h0 (by omega)
  exact h2.elim Or.inl (fun q => Or.inr ⟨hc, q⟩)
theorem lp_go4 {σ α : Type} {step : (σ → Option α) → σ → Option α} {s0 : σ} {Q : α → Prop} (n : Nat) (I : Nat → σ → Prop) (i0 : Nat) (hi0 : i0 ≤ n) (h0 : I i0 s0) (hn : n < FU)
    (h : ∀ i s, i ≤ n → I i s → ∀ rc, (∃ r, step rc s = some r ∧ Q r) ∨ (i < n ∧ ∃ s', I (i + 1) s' ∧ step rc s = rc s')) : ∃ r, lp step FU s0 = some r ∧ Q r :=
  lp_inv2 step I n (fun o => ∃ r, o = some r ∧ Q r) h (n - i0) i0 s0 FU (Nat.le_refl _) hi0 h0 (by omega)
theorem weighH7 {f : Fo} (hh : f.hr ≤ 9999) {k : Nat} (hk1 : 1 ≤ k) (hk : k ≤ 60) (hl : f.hr + k ≤ 9999) : f_X7_findingOfWeighedHours (nI k) (nI f.hr) = some 0 := by
  have h1 : f_X7_within (nI k) (1 : Int32) (60 : Int32) = some (kI (rg 1 60 (nI k))) := within_n (by decide) (by decide) _
  unfold f_X7_findingOfWeighedHours
  rw [bd_t h1, br_kI, br_t1 (rg_of hk1 hk), bd_t (late7 hh (by omega)), kI_f (by omega), br_t1 rfl]
theorem weighB7 {f : Fo} (hn : f.n ≤ 10) (hh : f.hr ≤ 9999) {b k : Nat} (hb : b < f.n) (hk1 : 1 ≤ k) (hk : k ≤ 60) (hl : f.hr + k ≤ 9999) : f_X7_findingOfWeighing (nI b) (nI k) (nI f.n) (nI f.hr) = some 0 := by
  unfold f_X7_findingOfWeighing
  rw [bd_t (isB7 (by omega) _), br_kI, br_t1 (isb_of hb), bd_t (weighH7 hh hk1 hk hl)]
theorem tb_add {y : Int32} {o : Nat} (ho : o < 10) {k : Nat} (hk : k < 32) : tb (y ||| btI o) k = true ↔ tb y k = true ∨ k = o := by
  rw [tb_or, tb_bt o ho k hk]
  simp
def underQ (f : Fo) (b w : Nat) (a : Int32) : Prop := (w = 0 → ∀ k, k < 32 → tb a k = true → k < f.n ∧ b < k ∧ abI f.ab k = nI b) ∧ ∀ k, k < f.n → b < k → abI f.ab k = nI b → tb a k = true
theorem S_under {f : Fo} {vT_present_basins : Int32} {cT_told : Nat → Int32} {cT_present_above : Nat → Int32} {cT_present_kind : Nat → Int32} {cT_present_edge : Nat → Int32} {cT_present_pool : Nat → Int32} {cT_present_store : Nat → Int32} {cT_present_spot : Nat → Int32} {vT_present_spring : Int32} {vT_present_hour : Int32} {vT_present_z : Int32} {b w : Nat} (hV : VF f) (hC : CF f cT_present_kind cT_present_above cT_present_edge cT_present_pool cT_present_store cT_present_spot vT_present_basins vT_present_spring vT_present_hour vT_present_z) (hb : b < f.n) (hw : w ≤ 1) : ∃ u : Int32 × (Nat → Int32), f_X7_under (nI b) (nI w) vT_present_basins cT_told cT_present_above = some u ∧ (underQ f b w u.1)
  := by
  have hn : f.n ≤ 10 := hV.1
  obtain rfl := hC.1
  obtain rfl := hC.2.1
  obtain rfl := hC.2.2.1
  have hG : VG f := VG_of hV
  have hh : f.hr ≤ 9999 := hV.2.2.2.1
  have h7 : f_X7_within (nI w) (0 : Int32) (1 : Int32) = some (kI (rg 0 1 (nI w))) := within_n (by decide) (by decide) _
  unfold f_X7_under
  rw [bd_t (isB7 (n := f.n) (by omega) _), br_kI, br_t1 (isb_of hb), bd_t h7, br_kI, br_t1 (rg_of (by omega) hw), nm_q]
  unfold f_X7_under_L31
  refine lp_go3 10 (fun i s => s.2.1 = nI (b + 1 + i) ∧ (w = 0 → ∀ k, k < 32 → tb s.1 k = true → k < f.n ∧ b < k ∧ k < b + 1 + i ∧ abI f.ab k = nI b) ∧ (∀ k, k < f.n → b < k → k < b + 1 + i → abI f.ab k = nI b → tb s.1 k = true)) ⟨nI_1 b, fun _ k hk h => absurd ((tb_0 k hk).symm.trans h) (by decide), fun k _ h1 h2 => absurd h1 (by omega)⟩ (FU_gt (by decide)) ?_
  rintro i ⟨y, o1, t1⟩ hi ⟨e2, e3, e4⟩ rc
  dsimp only at e2 e3 e4 ⊢
  subst e2
  unfold f_X7_under_L31_b
  by_cases ho : f.n ≤ b + 1 + i
  · left
    rw [br_t1 (nI_le ho (by omega))]
    refine ⟨_, rfl, fun hw0 k hk h => ?_, fun k h1 h2 h3 => e4 k h1 h2 (by omega) h3⟩
    obtain ⟨q1, q2, -, q3⟩ := e3 hw0 k hk h
    exact ⟨q1, q2, q3⟩
  · right
    have ho' : b + 1 + i < f.n := by omega
    have hB := (hC.2.2.2.2.1 (b + 1 + i) ho').2.1
    have hnl : ¬ nI f.n ≤ nI (b + 1 + i) := nI_ge ho' (by omega)
    have hv : vp_in (nI (b + 1 + i)) 10 := vp_in_nI (by omega) (by decide)
    refine ⟨by omega, ?_⟩
    unfold f_X7_under_J75
    rw [br_f1 hnl, gd_t hv, nI_clamp (by omega), nm_q, hB]
    have add : (w = 0 → abI f.ab (b + 1 + i) = nI b) → ∃ s' : Int32 × Int32 × (Nat → Int32), (s'.2.1 = nI (b + 1 + (i + 1)) ∧ (w = 0 → ∀ k, k < 32 → tb s'.1 k = true → k < f.n ∧ b < k ∧ k < b + 1 + (i + 1) ∧ abI f.ab k = nI b) ∧ (∀ k, k < f.n → b < k → k < b + 1 + (i + 1) → abI f.ab k = nI b → tb s'.1 k = true)) ∧ rc (y ||| ((1 : Int32) <<< (nI (b + 1 + i) &&& 31)), nI (b + 1 + i) + 1, t1) = rc s' := by
      intro hq
      refine ⟨_, ⟨nI_1 _, fun hw0 k hk h => ?_, fun k h1 h2 h3 h4 => ?_⟩, rfl⟩
      · rcases (tb_add (o := b + 1 + i) (by omega) hk).mp h with h | rfl
        · obtain ⟨z1, z2, z3, z4⟩ := e3 hw0 k hk h
          exact ⟨z1, z2, by omega, z4⟩
        · exact ⟨ho', by omega, by omega, hq hw0⟩
      · refine (tb_add (o := b + 1 + i) (by omega) (by omega)).mpr ?_
        by_cases e : k = b + 1 + i
        · exact Or.inr e
        · exact Or.inl (e4 k h1 h2 (by omega) h4)
    have stay : ¬ abI f.ab (b + 1 + i) = nI b → ∃ s' : Int32 × Int32 × (Nat → Int32), (s'.2.1 = nI (b + 1 + (i + 1)) ∧ (w = 0 → ∀ k, k < 32 → tb s'.1 k = true → k < f.n ∧ b < k ∧ k < b + 1 + (i + 1) ∧ abI f.ab k = nI b) ∧ (∀ k, k < f.n → b < k → k < b + 1 + (i + 1) → abI f.ab k = nI b → tb s'.1 k = true)) ∧ rc (y, nI (b + 1 + i) + 1, t1) = rc s' := by
      intro hq
      refine ⟨_, ⟨nI_1 _, fun hw0 k hk h => ?_, fun k h1 h2 h3 h4 => ?_⟩, rfl⟩
      · obtain ⟨z1, z2, z3, z4⟩ := e3 hw0 k hk h
        exact ⟨z1, z2, by omega, z4⟩
      · by_cases e : k = b + 1 + i
        · subst e; exact absurd h4 hq
        · exact e4 k h1 h2 (by omega) h4
    by_cases q1 : abI f.ab (b + 1 + i) = nI b
    · rw [br_t1 q1, br_t1 q1, br_id, br_id, nm_q]
      exact add (fun _ => q1)
    · by_cases q2 : nI w = (1 : Int32)
      · by_cases q3 : ((y >>> (abI f.ab (b + 1 + i) &&& 31)) &&& (1 : Int32)) = (1 : Int32)
        · rw [br_t1 q2, br_t1 q3, br_f1 q1, br_f1 (by decide), nm_q]
          exact add (fun hw0 => absurd q2 (by rw [hw0]; decide))
        · rw [br_t1 q2, br_f1 q3, br_f1 q1, br_t1 rfl]
          exact stay q1
      · rw [br_f1 q2, br_f1 q1, br_t1 rfl]
        exact stay q1
/-- what the greatest of a row is told as: the first place where it is, and it -/
theorem bestI_spec {g : Nat → Nat} {lo : Nat} (hg : ∀ v, g v < 2 ^ 31) (hlo : lo < 2 ^ 20) : ∀ n, 1 ≤ n → n ≤ 1000 → ∃ j, lo ≤ j ∧ j < lo + n ∧ bestI g lo n = (nI j, nI (g j)) ∧ ∀ i, lo ≤ i → i < lo + n → g i ≤ g j
  | 0, h, _ => absurd h (by omega)
  | 1, _, _ => by
    refine ⟨lo, Nat.le_refl _, by omega, ?_, fun i h1 h2 => by rw [show i = lo by omega]; exact Nat.le_refl _⟩
    refine bestI_f (g := g) (lo := lo) (i := 0) ?_
    show ¬ nI (g (lo + 0)) ≤ (-1 : Int32)
    rw [Int32.le_iff_toInt_le, nI_toInt (hg _), show (-1 : Int32).toInt = -1 from rfl]
    omega
  | n + 2, _, hn => by
    obtain ⟨j, h1, h2, h3, h4⟩ := bestI_spec hg hlo (n + 1) (by omega) (by omega)
    by_cases q : g (lo + (n + 1)) ≤ g j
    · refine ⟨j, h1, by omega, ?_, fun i a1 a2 => ?_⟩
      · rw [bestI_t (g := g) (lo := lo) (i := n + 1) (by rw [h3]; exact nI_le q (hg _)), h3]
      · by_cases e : i = lo + (n + 1)
        · rw [e]; exact q
        · exact h4 i a1 (by omega)
    · refine ⟨lo + (n + 1), by omega, by omega, ?_, fun i a1 a2 => ?_⟩
      · exact bestI_f (g := g) (lo := lo) (i := n + 1) (by rw [h3]; exact nI_ge (by omega) (hg _))
      · by_cases e : i = lo + (n + 1)
        · rw [e]; exact Nat.le_refl _
        · have := h4 i a1 (by omega); omega
theorem S_edge {f : Fo} {vT_present_basins : Int32} {vT_present_spring : Int32} {vT_present_hour : Int32} {vT_present_z : Int32} {vT_trial_basins : Int32} {vT_trial_spring : Int32} {vT_trial_hour : Int32} {vT_trial_z : Int32} {cT_present_kind : Nat → Int32} {cT_trial_kind : Nat → Int32} {cT_present_above : Nat → Int32} {cT_trial_above : Nat → Int32} {cT_present_edge : Nat → Int32} {cT_trial_edge : Nat → Int32} {cT_present_pool : Nat → Int32} {cT_trial_pool : Nat → Int32} {cT_present_store : Nat → Int32} {cT_trial_store : Nat → Int32} {cT_present_spot : Nat → Int32} {cT_trial_spot : Nat → Int32} {vT_flow_kept : Int32} {vT_flow_leaked : Int32} {vT_flow_ranOff : Int32} {vT_flow_uneven : Int32} {vT_flow_keptInAll : Int32} {vT_flow_leakedInAll : Int32} {vT_flow_ranOffInAll : Int32} {cT_flow_width : Nat → Int32} {cT_flow_goesOn : Nat → Int32} {cT_flow_comes : Nat → Int32} {cT_flow_keeps : Nat → Int32} {cT_flow_holds : Nat → Int32} {cT_told : Nat → Int32} {b k : Nat} (hV : VF f) (hC : CF f cT_present_kind cT_present_above cT_present_edge cT_present_pool cT_present_store cT_present_spot vT_present_basins vT_present_spring vT_present_hour vT_present_z) (hb : b < f.n) (hk1 : 1 ≤ k) (hk : k ≤ 60) (hl : f.hr + k ≤ 9999) : ∃ u : Int32 × Int32 × Int32 × Int32 × Int32 × (Nat → Int32) × (Nat → Int32) × (Nat → Int32) × (Nat → Int32) × (Nat → Int32) × (Nat → Int32) × Int32 × Int32 × Int32 × Int32 × Int32 × Int32 × Int32 × (Nat → Int32) × (Nat → Int32) × (Nat → Int32) × (Nat → Int32) × (Nat → Int32) × (Nat → Int32), f_X7_edge (nI b) (nI k) vT_present_basins vT_present_spring vT_present_hour vT_present_z vT_trial_basins vT_trial_spring vT_trial_hour vT_trial_z cT_present_kind cT_trial_kind cT_present_above cT_trial_above cT_present_edge cT_trial_edge cT_present_pool cT_trial_pool cT_present_store cT_trial_store cT_present_spot cT_trial_spot vT_flow_kept vT_flow_leaked vT_flow_ranOff vT_flow_uneven vT_flow_keptInAll vT_flow_leakedInAll vT_flow_ranOffInAll cT_flow_width cT_flow_goesOn cT_flow_comes cT_flow_keeps cT_flow_holds cT_told = some u ∧ (u.1 = (bestI (fun v => (f.setEd b v).gt k b) 1 9).1)
  := by
  have hn : f.n ≤ 10 := hV.1
  obtain rfl := hC.1
  obtain rfl := hC.2.1
  obtain rfl := hC.2.2.1
  have hG : VG f := VG_of hV
  have hh : f.hr ≤ 9999 := hV.2.2.2.1
  unfold f_X7_edge
  rw [bd_t (weighB7 hn hh hb hk1 hk hl), br_t1 rfl]
  unfold f_X7_edge_L26
  refine lp_go3 9 (fun i s => s.1 = (bestI (fun v => (f.setEd b v).gt k b) 1 i).1 ∧ s.2.1 = (bestI (fun v => (f.setEd b v).gt k b) 1 i).2 ∧ s.2.2.1 = nI (1 + i)) ⟨rfl, rfl, rfl⟩ (FU_gt (by decide)) ?_
  rintro i ⟨y4, y5, y6, tb, ts, th, tz, tk, ta, te, tp, tst, tsp, v1, v2, v3, v4, v5, v6, v7, w1, w2, w3, w4, w5, tt⟩ hi ⟨a1, a2, a3⟩ rc
  dsimp only at a1 a2 a3 ⊢
  subst a1 a2 a3
  unfold f_X7_edge_L26_b
  by_cases hx : i = 9
  · left
    subst hx
    rw [br_t1 (by decide)]
    exact ⟨_, rfl, rfl⟩
  · right
    refine ⟨by omega, ?_⟩
    obtain ⟨tk', ta', te', tp', ts', tt', hSt, hCt⟩ := start_e hn hC tb ts th tz tk ta te tp tst tsp
    have hCe := CF_Ed hCt b (1 + i)
    have v : vp_in (nI b) 10 := vp_in_nI (by omega) (by decide)
    rw [br_f1 (show ¬ (9 : Int32) < nI (1 + i) from nI_nlt (a := 9) (by omega) (by omega)), bd_t hSt]
    dsimp only
    obtain ⟨vk', vl', vr', vu', w', g', c', k', p', h', s', hp, hpv⟩ := pass_e2 (VG_Ed hG b (v := 1 + i) (by omega) (by omega)) hCe (k := k) (by omega) v1 v2 v3 v4 v5 v6 v7 w1 w2 w3 w4 w5
    have hg := gain_e2 (f := f) (g := f.setEd b (1 + i)) hn hb rfl (hpv b hb).2.1 (hC.2.2.2.2.1 b hb).2.2.2.2
    rw [gd_t v, nI_clamp (by omega), bd_t hp]
    dsimp only
    rw [bd_t hg]
    by_cases q : nI ((f.setEd b (1 + i)).gt k b) ≤ (bestI (fun v => (f.setEd b v).gt k b) 1 i).2
    · have hq := bestI_t (g := fun v => (f.setEd b v).gt k b) q
      rw [br_t1 q]
      exact ⟨_, ⟨by rw [hq], by rw [hq], nI_1 _⟩, rfl⟩
    · have hq := bestI_f (g := fun v => (f.setEd b v).gt k b) q
      rw [br_f1 q, bd_t hg]
      exact ⟨_, ⟨by rw [hq], by rw [hq], nI_1 _⟩, rfl⟩
theorem S_place {f : Fo} {vT_present_basins : Int32} {vT_present_spring : Int32} {vT_present_hour : Int32} {vT_present_z : Int32} {vT_trial_basins : Int32} {vT_trial_spring : Int32} {vT_trial_hour : Int32} {vT_trial_z : Int32} {cT_present_kind : Nat → Int32} {cT_trial_kind : Nat → Int32} {cT_present_above : Nat → Int32} {cT_trial_above : Nat → Int32} {cT_present_edge : Nat → Int32} {cT_trial_edge : Nat → Int32} {cT_present_pool : Nat → Int32} {cT_trial_pool : Nat → Int32} {cT_present_store : Nat → Int32} {cT_trial_store : Nat → Int32} {cT_present_spot : Nat → Int32} {cT_trial_spot : Nat → Int32} {vT_flow_kept : Int32} {vT_flow_leaked : Int32} {vT_flow_ranOff : Int32} {vT_flow_uneven : Int32} {vT_flow_keptInAll : Int32} {vT_flow_leakedInAll : Int32} {vT_flow_ranOffInAll : Int32} {cT_flow_width : Nat → Int32} {cT_flow_goesOn : Nat → Int32} {cT_flow_comes : Nat → Int32} {cT_flow_keeps : Nat → Int32} {cT_flow_holds : Nat → Int32} {cT_told : Nat → Int32} {b k : Nat} (hV : VF f) (hC : CF f cT_present_kind cT_present_above cT_present_edge cT_present_pool cT_present_store cT_present_spot vT_present_basins vT_present_spring vT_present_hour vT_present_z) (hb0 : b ≠ 0) (hb : b < f.n) (hk1 : 1 ≤ k) (hk : k ≤ 60) (hl : f.hr + k ≤ 9999) : ∃ u : Int32 × Int32 × Int32 × Int32 × Int32 × (Nat → Int32) × (Nat → Int32) × (Nat → Int32) × (Nat → Int32) × (Nat → Int32) × (Nat → Int32) × Int32 × Int32 × Int32 × Int32 × Int32 × Int32 × Int32 × (Nat → Int32) × (Nat → Int32) × (Nat → Int32) × (Nat → Int32) × (Nat → Int32) × (Nat → Int32), f_X7_place (nI b) (nI k) vT_present_basins vT_present_spring vT_present_hour vT_present_z vT_trial_basins vT_trial_spring vT_trial_hour vT_trial_z cT_present_kind cT_trial_kind cT_present_above cT_trial_above cT_present_edge cT_trial_edge cT_present_pool cT_trial_pool cT_present_store cT_trial_store cT_present_spot cT_trial_spot vT_flow_kept vT_flow_leaked vT_flow_ranOff vT_flow_uneven vT_flow_keptInAll vT_flow_leakedInAll vT_flow_ranOffInAll cT_flow_width cT_flow_goesOn cT_flow_comes cT_flow_keeps cT_flow_holds cT_told = some u ∧ (u.1 = (bestI (fun v => (f.setAb b v).gt k b) 0 b).1)
  := by
  have hn : f.n ≤ 10 := hV.1
  obtain rfl := hC.1
  obtain rfl := hC.2.1
  obtain rfl := hC.2.2.1
  have hG : VG f := VG_of hV
  have hh : f.hr ≤ 9999 := hV.2.2.2.1
  unfold f_X7_place
  rw [br_f1 (nI_ne 0 0 hb0), bd_t (weighB7 hn hh hb hk1 hk hl)]
  unfold f_X7_place_J15
  rw [br_t1 rfl]
  unfold f_X7_place_L35
  refine lp_go3 b (fun i s => s.1 = (bestI (fun v => (f.setAb b v).gt k b) 0 i).1 ∧ s.2.1 = (bestI (fun v => (f.setAb b v).gt k b) 0 i).2 ∧ s.2.2.1 = nI (0 + i)) ⟨rfl, rfl, rfl⟩ (FU_gt (by omega)) ?_
  rintro i ⟨y4, y5, y6, tb, ts, th, tz, tk, ta, te, tp, tst, tsp, v1, v2, v3, v4, v5, v6, v7, w1, w2, w3, w4, w5, tt⟩ hi ⟨a1, a2, a3⟩ rc
  dsimp only at a1 a2 a3 ⊢
  subst a1 a2 a3
  unfold f_X7_place_L35_b
  by_cases hx : i = b
  · left
    subst hx
    rw [br_t1 (show nI i ≤ nI (0 + i) from nI_le (by omega) (by omega))]
    exact ⟨_, rfl, rfl⟩
  · right
    refine ⟨by omega, ?_⟩
    obtain ⟨tk', ta', te', tp', ts', tt', hSt, hCt⟩ := start_e hn hC tb ts th tz tk ta te tp tst tsp
    have hCe := CF_Ab hCt (b := b) hb0 (0 + i)
    have v : vp_in (nI b) 10 := vp_in_nI (by omega) (by decide)
    rw [br_f1 (show ¬ nI b ≤ nI (0 + i) from nI_ge (by omega) (by omega)), bd_t hSt]
    dsimp only
    obtain ⟨vk', vl', vr', vu', w', g', c', k', p', h', s', hp, hpv⟩ := pass_e2 (VG_Ab hG (b := b) (v := 0 + i) (by omega)) hCe (k := k) (by omega) v1 v2 v3 v4 v5 v6 v7 w1 w2 w3 w4 w5
    have hg := gain_e2 (f := f) (g := f.setAb b (0 + i)) hn hb rfl (hpv b hb).2.1 (hC.2.2.2.2.1 b hb).2.2.2.2
    rw [gd_t v, nI_clamp (by omega), bd_t hp]
    dsimp only
    rw [bd_t hg]
    by_cases q : nI ((f.setAb b (0 + i)).gt k b) ≤ (bestI (fun v => (f.setAb b v).gt k b) 0 i).2
    · have hq := bestI_t (g := fun v => (f.setAb b v).gt k b) q
      rw [br_t1 q]
      exact ⟨_, ⟨by rw [hq], by rw [hq], nI_1 _⟩, rfl⟩
    · have hq := bestI_f (g := fun v => (f.setAb b v).gt k b) q
      rw [br_f1 q, bd_t hg]
      exact ⟨_, ⟨by rw [hq], by rw [hq], nI_1 _⟩, rfl⟩
theorem S_kindFor {f : Fo} {vT_present_basins : Int32} {vT_present_spring : Int32} {vT_present_hour : Int32} {vT_present_z : Int32} {vT_trial_basins : Int32} {vT_trial_spring : Int32} {vT_trial_hour : Int32} {vT_trial_z : Int32} {cT_present_kind : Nat → Int32} {cT_trial_kind : Nat → Int32} {cT_present_above : Nat → Int32} {cT_trial_above : Nat → Int32} {cT_present_edge : Nat → Int32} {cT_trial_edge : Nat → Int32} {cT_present_pool : Nat → Int32} {cT_trial_pool : Nat → Int32} {cT_present_store : Nat → Int32} {cT_trial_store : Nat → Int32} {cT_present_spot : Nat → Int32} {cT_trial_spot : Nat → Int32} {vT_flow_kept : Int32} {vT_flow_leaked : Int32} {vT_flow_ranOff : Int32} {vT_flow_uneven : Int32} {vT_flow_keptInAll : Int32} {vT_flow_leakedInAll : Int32} {vT_flow_ranOffInAll : Int32} {cT_flow_width : Nat → Int32} {cT_flow_goesOn : Nat → Int32} {cT_flow_comes : Nat → Int32} {cT_flow_keeps : Nat → Int32} {cT_flow_holds : Nat → Int32} {cT_told : Nat → Int32} {b k : Nat} (hV : VF f) (hC : CF f cT_present_kind cT_present_above cT_present_edge cT_present_pool cT_present_store cT_present_spot vT_present_basins vT_present_spring vT_present_hour vT_present_z) (hb : b < f.n) (hk1 : 1 ≤ k) (hk : k ≤ 60) (hl : f.hr + k ≤ 9999) : ∃ u : Int32 × Int32 × Int32 × Int32 × Int32 × (Nat → Int32) × (Nat → Int32) × (Nat → Int32) × (Nat → Int32) × (Nat → Int32) × (Nat → Int32) × Int32 × Int32 × Int32 × Int32 × Int32 × Int32 × Int32 × (Nat → Int32) × (Nat → Int32) × (Nat → Int32) × (Nat → Int32) × (Nat → Int32) × (Nat → Int32), f_X7_kindFor (nI b) (nI k) vT_present_basins vT_present_spring vT_present_hour vT_present_z vT_trial_basins vT_trial_spring vT_trial_hour vT_trial_z cT_present_kind cT_trial_kind cT_present_above cT_trial_above cT_present_edge cT_trial_edge cT_present_pool cT_trial_pool cT_present_store cT_trial_store cT_present_spot cT_trial_spot vT_flow_kept vT_flow_leaked vT_flow_ranOff vT_flow_uneven vT_flow_keptInAll vT_flow_leakedInAll vT_flow_ranOffInAll cT_flow_width cT_flow_goesOn cT_flow_comes cT_flow_keeps cT_flow_holds cT_told = some u ∧ (u.1 = (bestI (fun v => (f.setKd b v).gt k b) 0 7).1)
  := by
  have hn : f.n ≤ 10 := hV.1
  obtain rfl := hC.1
  obtain rfl := hC.2.1
  obtain rfl := hC.2.2.1
  have hG : VG f := VG_of hV
  have hh : f.hr ≤ 9999 := hV.2.2.2.1
  unfold f_X7_kindFor
  rw [bd_t (weighB7 hn hh hb hk1 hk hl), br_t1 rfl]
  unfold f_X7_kindFor_L26
  refine lp_go3 7 (fun i s => s.1 = (bestI (fun v => (f.setKd b v).gt k b) 0 i).1 ∧ s.2.1 = (bestI (fun v => (f.setKd b v).gt k b) 0 i).2 ∧ s.2.2.1 = nI (0 + i)) ⟨rfl, rfl, rfl⟩ (FU_gt (by decide)) ?_
  rintro i ⟨y4, y5, y6, tb, ts, th, tz, tk, ta, te, tp, tst, tsp, v1, v2, v3, v4, v5, v6, v7, w1, w2, w3, w4, w5, tt⟩ hi ⟨a1, a2, a3⟩ rc
  dsimp only at a1 a2 a3 ⊢
  subst a1 a2 a3
  unfold f_X7_kindFor_L26_b
  by_cases hx : i = 7
  · left
    subst hx
    rw [br_t1 (by decide)]
    exact ⟨_, rfl, rfl⟩
  · right
    refine ⟨by omega, ?_⟩
    obtain ⟨tb', ts', th', tz', tk', ta', te', tp', tst', tsp', v1', v2', v3', v4', v5', v6', v7', w1', w2', w3', w4', w5', hp, hpv⟩ := asKind_e hG hC hb (c := 0 + i) (by omega) (k := k) (by omega) tb ts th tz tk ta te tp tst tsp v1 v2 v3 v4 v5 v6 v7 w1 w2 w3 w4 w5
    have hg := gain_e2 (f := f) (g := f.setKd b (0 + i)) hn hb rfl (hpv b hb) (hC.2.2.2.2.1 b hb).2.2.2.2
    rw [br_f1 (show ¬ (6 : Int32) < nI (0 + i) from nI_nlt (a := 6) (by omega) (by omega)), bd_t hp]
    dsimp only
    rw [bd_t hg]
    by_cases q : nI ((f.setKd b (0 + i)).gt k b) ≤ (bestI (fun v => (f.setKd b v).gt k b) 0 i).2
    · have hq := bestI_t (g := fun v => (f.setKd b v).gt k b) q
      rw [br_t1 q]
      exact ⟨_, ⟨by rw [hq], by rw [hq], nI_1 _⟩, rfl⟩
    · have hq := bestI_f (g := fun v => (f.setKd b v).gt k b) q
      rw [br_f1 q, bd_t hg]
      exact ⟨_, ⟨by rw [hq], by rw [hq], nI_1 _⟩, rfl⟩
def whenQ (f : Fo) (b : Nat) (x a : Int32) : Prop := (∃ i, i ≤ 100 ∧ a = nI i ∧ x ≤ (f.it i).st b ∧ (∀ j, j < i → ¬ x ≤ (f.it j).st b) ∧ rg 1 99999 x) ∨ (a = -1000004 ∧ (∀ j, j ≤ 100 → ¬ x ≤ (f.it j).st b) ∧ rg 1 99999 x) ∨ a = -1000001
theorem S_when {f : Fo} {vT_present_basins : Int32} {vT_present_spring : Int32} {vT_present_hour : Int32} {vT_present_z : Int32} {cT_told : Nat → Int32} {vT_trial_basins : Int32} {vT_trial_spring : Int32} {vT_trial_hour : Int32} {vT_trial_z : Int32} {cT_present_kind : Nat → Int32} {cT_trial_kind : Nat → Int32} {cT_present_above : Nat → Int32} {cT_trial_above : Nat → Int32} {cT_present_edge : Nat → Int32} {cT_trial_edge : Nat → Int32} {cT_present_pool : Nat → Int32} {cT_trial_pool : Nat → Int32} {cT_present_store : Nat → Int32} {cT_trial_store : Nat → Int32} {cT_present_spot : Nat → Int32} {cT_trial_spot : Nat → Int32} {vT_flow_kept : Int32} {vT_flow_leaked : Int32} {vT_flow_ranOff : Int32} {vT_flow_uneven : Int32} {vT_flow_keptInAll : Int32} {vT_flow_leakedInAll : Int32} {vT_flow_ranOffInAll : Int32} {cT_flow_width : Nat → Int32} {cT_flow_goesOn : Nat → Int32} {cT_flow_comes : Nat → Int32} {cT_flow_keeps : Nat → Int32} {cT_flow_holds : Nat → Int32} {b : Nat} {x : Int32} (hV : VF f) (hC : CF f cT_present_kind cT_present_above cT_present_edge cT_present_pool cT_present_store cT_present_spot vT_present_basins vT_present_spring vT_present_hour vT_present_z) (hb : b < f.n) (hl : f.hr + 100 ≤ 9999) : ∃ u : Int32 × (Nat → Int32) × Int32 × Int32 × Int32 × Int32 × (Nat → Int32) × (Nat → Int32) × (Nat → Int32) × (Nat → Int32) × (Nat → Int32) × (Nat → Int32) × Int32 × Int32 × Int32 × Int32 × Int32 × Int32 × Int32 × (Nat → Int32) × (Nat → Int32) × (Nat → Int32) × (Nat → Int32) × (Nat → Int32), f_X7_when (nI b) x vT_present_basins vT_present_spring vT_present_hour vT_present_z cT_told vT_trial_basins vT_trial_spring vT_trial_hour vT_trial_z cT_present_kind cT_trial_kind cT_present_above cT_trial_above cT_present_edge cT_trial_edge cT_present_pool cT_trial_pool cT_present_store cT_trial_store cT_present_spot cT_trial_spot vT_flow_kept vT_flow_leaked vT_flow_ranOff vT_flow_uneven vT_flow_keptInAll vT_flow_leakedInAll vT_flow_ranOffInAll cT_flow_width cT_flow_goesOn cT_flow_comes cT_flow_keeps cT_flow_holds = some u ∧ (whenQ f b x u.1)
  := by
  have hn : f.n ≤ 10 := hV.1
  obtain rfl := hC.1
  obtain rfl := hC.2.1
  obtain rfl := hC.2.2.1
  have hG : VG f := VG_of hV
  have hh : f.hr ≤ 9999 := hV.2.2.2.1
  have h1 : f_X7_within x (1 : Int32) (99999 : Int32) = some (kI (rg 1 99999 x)) := within_n (by decide) (by decide) x
  unfold f_X7_when
  rw [bd_t (isB7 (by omega) _), br_kI, br_t1 (isb_of hb), bd_t h1, br_kI]
  by_cases hw : rg 1 99999 x
  rotate_left
  · rw [br_f1 hw, bd_t (tell0 _)]
    exact ⟨_, rfl, Or.inr (Or.inr rfl)⟩
  obtain ⟨tk', ta', te', tp', ts', tt', hSt, hCt⟩ := start_e hn hC vT_trial_basins vT_trial_spring vT_trial_hour vT_trial_z cT_trial_kind cT_trial_above cT_trial_edge cT_trial_pool cT_trial_store cT_trial_spot
  rw [br_t1 hw, bd_t (show f_X7_tooLate (100 : Int32) (nI f.hr) = _ from late7 (j := 100) hh (by omega)), kI_f (by omega), br_t1 rfl, bd_t hSt]
  dsimp only
  unfold f_X7_when_L47
  refine lp_go3 101 (fun i s => s.1 = nI i ∧ CF (f.it i) s.2.2.2.2.2.2.1 s.2.2.2.2.2.2.2.1 s.2.2.2.2.2.2.2.2.1 s.2.2.2.2.2.2.2.2.2.1 s.2.2.2.2.2.2.2.2.2.2.1 s.2.2.2.2.2.2.2.2.2.2.2.1 s.2.2.1 s.2.2.2.1 s.2.2.2.2.1 s.2.2.2.2.2.1 ∧ ∀ j, j < i → ¬ x ≤ (f.it j).st b) ⟨rfl, hCt, fun j h => absurd h (Nat.not_lt_zero j)⟩ (FU_gt (by decide)) ?_
  rintro i ⟨y, tld, tb, ts, th, tz, tk, ta, te, tp, tst, tsp, v1, v2, v3, v4, v5, v6, v7, w1, w2, w3, w4, w5⟩ hi ⟨a1, a3, a4⟩ rc
  dsimp only at a1 a3 a4 ⊢
  subst a1
  have hb' : b < (f.it i).n := by rw [(it_same f i).1]; exact hb
  have vb : vp_in (nI b) 10 := vp_in_nI (by omega) (by decide)
  unfold f_X7_when_L47_b
  by_cases hx : i = 101
  · left
    subst hx
    rw [br_t1 (by decide), bd_t (tell3 _)]
    exact ⟨_, rfl, Or.inr (Or.inl ⟨rfl, fun j hj => a4 j (by omega), hw⟩)⟩
  · have hst := (a3.2.2.2.2.1 b hb').2.2.2.2
    have h100 : ¬ (100 : Int32) < nI i := nI_nlt (b := i) (a := 100) (by omega) (by decide)
    rw [br_f1 h100, gd_t vb, nI_clamp (by omega), hst]
    by_cases hq : x ≤ (f.it i).st b
    · left
      rw [br_f1 (Int32.not_lt.mpr hq)]
      exact ⟨_, rfl, Or.inl ⟨i, by omega, rfl, hq, a4, hw⟩⟩
    · right
      refine ⟨by omega, ?_⟩
      obtain ⟨vk', vl', vr', vu', hr', w', g', c', k', p', h', s', hp, hpc, -⟩ := pass_c (VG_it hG i) a3 (k := 1) (by decide) v1 v2 v3 v4 v5 v6 v7 w1 w2 w3 w4 w5
      rw [br_t1 (Int32.not_le.mp hq), bd_t (show f_X1_pass (1 : Int32) _ _ _ _ _ _ _ _ _ _ _ _ _ _ _ _ _ _ _ _ = _ from hp)]
      refine ⟨_, ?_, rfl⟩
      refine ⟨nI_1 i, hpc, fun j hj => ?_⟩
      by_cases e : j = i
      · rw [e]; exact hq
      · exact a4 j (by omega)
theorem S_hurt {f : Fo} {vT_present_basins : Int32} {vT_present_spring : Int32} {vT_present_hour : Int32} {vT_present_z : Int32} {vT_trial_basins : Int32} {vT_trial_spring : Int32} {vT_trial_hour : Int32} {vT_trial_z : Int32} {cT_present_kind : Nat → Int32} {cT_trial_kind : Nat → Int32} {cT_present_above : Nat → Int32} {cT_trial_above : Nat → Int32} {cT_present_edge : Nat → Int32} {cT_trial_edge : Nat → Int32} {cT_present_pool : Nat → Int32} {cT_trial_pool : Nat → Int32} {cT_present_store : Nat → Int32} {cT_trial_store : Nat → Int32} {cT_present_spot : Nat → Int32} {cT_trial_spot : Nat → Int32} {vT_flow_kept : Int32} {vT_flow_leaked : Int32} {vT_flow_ranOff : Int32} {vT_flow_uneven : Int32} {vT_flow_keptInAll : Int32} {vT_flow_leakedInAll : Int32} {vT_flow_ranOffInAll : Int32} {cT_flow_width : Nat → Int32} {cT_flow_goesOn : Nat → Int32} {cT_flow_comes : Nat → Int32} {cT_flow_keeps : Nat → Int32} {cT_flow_holds : Nat → Int32} {cT_usual : Nat → Int32} {cT_told : Nat → Int32} {b k : Nat} (hV : VF f) (hC : CF f cT_present_kind cT_present_above cT_present_edge cT_present_pool cT_present_store cT_present_spot vT_present_basins vT_present_spring vT_present_hour vT_present_z) (hb : b < f.n) (hk1 : 1 ≤ k) (hk : k ≤ 60) (hl : f.hr + k ≤ 9999) : ∃ u : Int32 × Int32 × Int32 × Int32 × Int32 × (Nat → Int32) × (Nat → Int32) × (Nat → Int32) × (Nat → Int32) × (Nat → Int32) × (Nat → Int32) × Int32 × Int32 × Int32 × Int32 × Int32 × Int32 × Int32 × (Nat → Int32) × (Nat → Int32) × (Nat → Int32) × (Nat → Int32) × (Nat → Int32) × (Nat → Int32) × (Nat → Int32), f_X7_hurt (nI b) (nI k) vT_present_basins vT_present_spring vT_present_hour vT_present_z vT_trial_basins vT_trial_spring vT_trial_hour vT_trial_z cT_present_kind cT_trial_kind cT_present_above cT_trial_above cT_present_edge cT_trial_edge cT_present_pool cT_trial_pool cT_present_store cT_trial_store cT_present_spot cT_trial_spot vT_flow_kept vT_flow_leaked vT_flow_ranOff vT_flow_uneven vT_flow_keptInAll vT_flow_leakedInAll vT_flow_ranOffInAll cT_flow_width cT_flow_goesOn cT_flow_comes cT_flow_keeps cT_flow_holds cT_usual cT_told = some u ∧ (u.1 = setI (fun o => ¬ nI (f.gt k o) ≤ nI ((f.setKd b 1).gt k o)) f.n)
  := by
  have hn : f.n ≤ 10 := hV.1
  obtain rfl := hC.1
  obtain rfl := hC.2.1
  obtain rfl := hC.2.2.1
  have hG : VG f := VG_of hV
  have hh : f.hr ≤ 9999 := hV.2.2.2.1
  unfold f_X7_hurt
  rw [bd_t (weighB7 hn hh hb hk1 hk hl), br_t1 rfl]
  obtain ⟨tb, ts, th, tz, tk, ta, te, tp, tst, tsp, v1, v2, v3, v4, v5, v6, v7, w1, w2, w3, w4, w5, us, hU, hUv⟩ := usual_e hG hC (k := k) (by omega) vT_trial_basins vT_trial_spring vT_trial_hour vT_trial_z cT_trial_kind cT_trial_above cT_trial_edge cT_trial_pool cT_trial_store cT_trial_spot vT_flow_kept vT_flow_leaked vT_flow_ranOff vT_flow_uneven vT_flow_keptInAll vT_flow_leakedInAll vT_flow_ranOffInAll cT_flow_width cT_flow_goesOn cT_flow_comes cT_flow_keeps cT_flow_holds cT_usual
  rw [bd_t hU]
  dsimp only
  obtain ⟨tb', ts', th', tz', tk', ta', te', tp', tst', tsp', v1', v2', v3', v4', v5', v6', v7', w1', w2', w3', w4', w5', hp, hpv⟩ := asKind_e hG hC hb (c := 1) (by decide) (k := k) (by omega) tb ts th tz tk ta te tp tst tsp v1 v2 v3 v4 v5 v6 v7 w1 w2 w3 w4 w5
  rw [bd_t (show f_X7_passAsKind (nI b) (1 : Int32) (nI k) _ _ _ _ _ _ _ _ _ _ _ _ _ _ _ _ _ _ _ _ _ _ _ _ _ _ _ _ _ _ _ _ = _ from hp)]
  dsimp only
  unfold f_X7_hurt_L35
  refine lp_go3 f.n (fun i s => s.1 = setI (fun o => ¬ nI (f.gt k o) ≤ nI ((f.setKd b 1).gt k o)) i ∧ s.2.1 = nI i ∧ s.2.2.2.2.2.2.2.2.2.2.1 = tst' ∧ s.2.2.2.2.2.2.2.2.2.2.2.2.2.2.2.2.2.2.2.2.2.2.2.2.1 = us) ⟨rfl, rfl, rfl, rfl⟩ (FU_gt (by omega)) ?_
  rintro i ⟨y4, y5, tb, ts, th, tz, tk, ta, te, tp, tst, tsp, v1, v2, v3, v4, v5, v6, v7, w1, w2, w3, w4, w5, uu, tt⟩ hi ⟨a1, a2, a3, a4⟩ rc
  dsimp only at a1 a2 a3 a4 ⊢
  subst a1 a2 a3 a4
  unfold f_X7_hurt_L35_b
  by_cases hx : i = f.n
  · left
    subst hx
    rw [br_t1 (nI_le (Nat.le_refl _) (by omega))]
    exact ⟨_, rfl, rfl⟩
  · right
    have hi' : i < f.n := by omega
    have v : vp_in (nI i) 10 := vp_in_nI (by omega) (by decide)
    have hg := gain_e2 (f := f) (g := f.setKd b 1) hn hi' rfl (hpv i hi') (hC.2.2.2.2.1 i hi').2.2.2.2
    refine ⟨hi', ?_⟩
    rw [br_f1 (nI_ge hi' (by omega)), bd_t hg, gd_t v, nI_clamp (by omega), hUv i hi']
    by_cases q : nI (f.gt k i) ≤ nI ((f.setKd b 1).gt k i)
    · rw [br_t1 q]
      exact ⟨_, ⟨(setI_f (P := fun o => ¬ nI (f.gt k o) ≤ nI ((f.setKd b 1).gt k o)) (fun z => z q)).symm, nI_1 _, rfl, rfl⟩, rfl⟩
    · rw [br_f1 q, nm_q]
      exact ⟨_, ⟨(setI_t (P := fun o => ¬ nI (f.gt k o) ≤ nI ((f.setKd b 1).gt k o)) q).symm, nI_1 _, rfl, rfl⟩, rfl⟩
def swp (f : Fo) (i j : Nat) : Fo := (f.setAb i (f.ab j)).setAb j (f.ab i)
def dealQ (f : Fo) (k : Nat) (a : Int32) : Prop := (∃ i j, 1 ≤ i ∧ i < j ∧ j < f.n ∧ f.ab j < i ∧ a = nI (10 * i + j) ∧ f.gt k i < (swp f i j).gt k i ∧ f.gt k j < (swp f i j).gt k j) ∨ a = -1000004
theorem S_deal {f : Fo} {vT_present_basins : Int32} {vT_present_spring : Int32} {vT_present_hour : Int32} {vT_present_z : Int32} {vT_trial_basins : Int32} {vT_trial_spring : Int32} {vT_trial_hour : Int32} {vT_trial_z : Int32} {cT_present_kind : Nat → Int32} {cT_trial_kind : Nat → Int32} {cT_present_above : Nat → Int32} {cT_trial_above : Nat → Int32} {cT_present_edge : Nat → Int32} {cT_trial_edge : Nat → Int32} {cT_present_pool : Nat → Int32} {cT_trial_pool : Nat → Int32} {cT_present_store : Nat → Int32} {cT_trial_store : Nat → Int32} {cT_present_spot : Nat → Int32} {cT_trial_spot : Nat → Int32} {vT_flow_kept : Int32} {vT_flow_leaked : Int32} {vT_flow_ranOff : Int32} {vT_flow_uneven : Int32} {vT_flow_keptInAll : Int32} {vT_flow_leakedInAll : Int32} {vT_flow_ranOffInAll : Int32} {cT_flow_width : Nat → Int32} {cT_flow_goesOn : Nat → Int32} {cT_flow_comes : Nat → Int32} {cT_flow_keeps : Nat → Int32} {cT_flow_holds : Nat → Int32} {cT_usual : Nat → Int32} {cT_told : Nat → Int32} {k : Nat} (hV : VF f) (hC : CF f cT_present_kind cT_present_above cT_present_edge cT_present_pool cT_present_store cT_present_spot vT_present_basins vT_present_spring vT_present_hour vT_present_z) (hk1 : 1 ≤ k) (hk : k ≤ 60) (hl : f.hr + k ≤ 9999) : ∃ u : Int32 × Int32 × Int32 × Int32 × Int32 × (Nat → Int32) × (Nat → Int32) × (Nat → Int32) × (Nat → Int32) × (Nat → Int32) × (Nat → Int32) × Int32 × Int32 × Int32 × Int32 × Int32 × Int32 × Int32 × (Nat → Int32) × (Nat → Int32) × (Nat → Int32) × (Nat → Int32) × (Nat → Int32) × (Nat → Int32) × (Nat → Int32), f_X7_deal (nI k) vT_present_basins vT_present_spring vT_present_hour vT_present_z vT_trial_basins vT_trial_spring vT_trial_hour vT_trial_z cT_present_kind cT_trial_kind cT_present_above cT_trial_above cT_present_edge cT_trial_edge cT_present_pool cT_trial_pool cT_present_store cT_trial_store cT_present_spot cT_trial_spot vT_flow_kept vT_flow_leaked vT_flow_ranOff vT_flow_uneven vT_flow_keptInAll vT_flow_leakedInAll vT_flow_ranOffInAll cT_flow_width cT_flow_goesOn cT_flow_comes cT_flow_keeps cT_flow_holds cT_usual cT_told = some u ∧ (dealQ f k u.1)
  := by
  have hn : f.n ≤ 10 := hV.1
  obtain rfl := hC.1
  obtain rfl := hC.2.1
  obtain rfl := hC.2.2.1
  have hG : VG f := VG_of hV
  have hh : f.hr ≤ 9999 := hV.2.2.2.1
  unfold f_X7_deal
  obtain ⟨tb, ts, th, tz, tk, ta, te, tp, tst, tsp, v1, v2, v3, v4, v5, v6, v7, w1, w2, w3, w4, w5, us, hU, hUv⟩ := usual_e hG hC (k := k) (by omega) vT_trial_basins vT_trial_spring vT_trial_hour vT_trial_z cT_trial_kind cT_trial_above cT_trial_edge cT_trial_pool cT_trial_store cT_trial_spot vT_flow_kept vT_flow_leaked vT_flow_ranOff vT_flow_uneven vT_flow_keptInAll vT_flow_leakedInAll vT_flow_ranOffInAll cT_flow_width cT_flow_goesOn cT_flow_comes cT_flow_keeps cT_flow_holds cT_usual
  rw [bd_t (weighH7 hh hk1 hk hl), br_t1 rfl, bd_t hU]
  dsimp only
  by_cases h0 : f.n = 0
  · unfold f_X7_deal_L23
    refine lp_go3 0 (fun i s => s.1 = 1) rfl (FU_gt (by decide)) ?_
    rintro i ⟨y3, tb, ts, th, tz, tk, ta, te, tp, tst, tsp, v1, v2, v3, v4, v5, v6, v7, w1, w2, w3, w4, w5, uu, tt⟩ hi a1 rc
    dsimp only at a1 ⊢
    subst a1
    left
    unfold f_X7_deal_L23_b
    rw [h0, br_t1 (by decide), bd_t (tell3 _)]
    exact ⟨_, rfl, Or.inr rfl⟩
  unfold f_X7_deal_L23
  refine lp_go4 f.n (fun i s => s.1 = nI i ∧ 1 ≤ i ∧ s.2.2.2.2.2.2.2.2.2.2.2.2.2.2.2.2.2.2.2.2.2.2.2.1 = us) 1 (by omega) ⟨rfl, Nat.le_refl _, rfl⟩ (FU_gt (by omega)) ?_
  rintro i ⟨y3, tb, ts, th, tz, tk, ta, te, tp, tst, tsp, v1, v2, v3, v4, v5, v6, v7, w1, w2, w3, w4, w5, uu, tt⟩ hi ⟨a1, a0, a3⟩ rc
  dsimp only at a1 a3 ⊢
  subst a1 a3
  unfold f_X7_deal_L23_b
  by_cases hx : i = f.n
  · left
    subst hx
    rw [br_t1 (nI_le (Nat.le_refl _) (by omega)), bd_t (tell3 _)]
    exact ⟨_, rfl, Or.inr rfl⟩
  have hi' : i < f.n := by omega
  rw [br_f1 (nI_ge hi' (by omega)), nm_q, nI_1]
  unfold f_X7_deal_L39
  refine lp_in3 hi' f.n (fun j s => s.1 = nI i ∧ s.2.1 = nI j ∧ i < j ∧ s.2.2.2.2.2.2.2.2.2.2.2.2.2.2.2.2.2.2.2.2.2.2.2.2.1 = uu) (i + 1) (by omega) ⟨rfl, rfl, by omega, rfl⟩ (FU_gt (by omega)) ?_
  rintro j ⟨y3, y4, tb, ts, th, tz, tk, ta, te, tp, tst, tsp, v1, v2, v3, v4, v5, v6, v7, w1, w2, w3, w4, w5, u2, t2⟩ hj ⟨b1, b3, hij, b6⟩ rc2
  dsimp only at b1 b3 b6 ⊢
  subst b1 b3 b6
  unfold f_X7_deal_L39_b
  by_cases hjx : j = f.n
  · left; right
    subst hjx
    rw [br_t1 (nI_le (Nat.le_refl _) (by omega))]
    exact ⟨_, ⟨nI_1 _, by omega, rfl⟩, rfl⟩
  have hj' : j < f.n := by omega
  have vj : vp_in (nI j) 10 := vp_in_nI (by omega) (by decide)
  have hAj := (hC.2.2.2.2.1 j hj').2.1
  rw [abI_s _ (by omega)] at hAj
  have hbj := (hV.2.1 j hj').2.2.2.2 (by omega)
  have hbi := (hV.2.1 i hi').2.2.2.2 (by omega)
  rw [br_f1 (nI_ge hj' (by omega)), gd_t vj, nI_clamp (show j < 2 ^ 31 by omega), hAj]
  by_cases hlt : f.ab j < i
  · obtain ⟨tb', ts', th', tz', tk', ta', te', tp', tst', tsp', v1', v2', v3', v4', v5', v6', v7', w1', w2', w3', w4', w5', hB⟩ := both_e hG hC a0 hij hj' hlt (k := k) (by omega) tb ts th tz tk ta te tp tst tsp v1 v2 v3 v4 v5 v6 v7 w1 w2 w3 w4 w5 u2 hUv
    rw [br_f1 (nI_ge hlt (by omega)), bd_t hB]
    dsimp only
    rw [br_kI]
    by_cases q : ¬ nI (((f.setAb i (f.ab j)).setAb j (f.ab i)).gt k i) ≤ nI (f.gt k i) ∧ ¬ nI (((f.setAb i (f.ab j)).setAb j (f.ab i)).gt k j) ≤ nI (f.gt k j)
    · left; left
      rw [br_t1 q]
      have g1 := gt_le hG k hi'
      have g2 := gt_le hG k hj'
      refine ⟨_, rfl, Or.inl ⟨i, j, a0, hij, hj', hlt, ?_, Nat.lt_of_not_le (fun z => q.1 (nI_le z (by omega))), Nat.lt_of_not_le (fun z => q.2 (nI_le z (by omega)))⟩⟩
      dsimp only
      rw [show (10 : Int32) = nI 10 from rfl, pk_mul, nI_add]
    · right
      rw [br_f1 q]
      exact ⟨hj', _, ⟨rfl, nI_1 _, by omega, rfl⟩, rfl⟩
  · right
    rw [br_t1 (show nI i ≤ nI (f.ab j) from nI_le (by omega) (by omega))]
    exact ⟨hj', _, ⟨rfl, nI_1 _, by omega, rfl⟩, rfl⟩
theorem ks0 : k_sheet 0 := k_sheet_iff.mpr ⟨0, by omega, by omega, rfl⟩
theorem hr_zs (g : Fo) (z : Int32) (v : Nat) : ((g.setZ z).setSg v).hr = g.hr := rfl
theorem n_zs (g : Fo) (z : Int32) (v : Nat) : ((g.setZ z).setSg v).n = g.n := rfl
def weatherQ (f : Fo) (k : Nat) (a : Int32) : Prop := ∃ m, m ≤ k * 999990 ∧ a = nI m
def yrQ (f : Fo) (k : Nat) (g : Fo) : Prop := VF g ∧ g.n = f.n ∧ g.hr = f.hr + k
theorem S_weather {f : Fo} {vT_present_basins : Int32} {vT_present_spring : Int32} {vT_present_hour : Int32} {vT_present_z : Int32} {vT_flow_kept : Int32} {vT_flow_leaked : Int32} {vT_flow_ranOff : Int32} {vT_flow_uneven : Int32} {vT_flow_keptInAll : Int32} {vT_flow_leakedInAll : Int32} {vT_flow_ranOffInAll : Int32} {cT_flow_width : Nat → Int32} {cT_present_above : Nat → Int32} {cT_present_edge : Nat → Int32} {cT_flow_goesOn : Nat → Int32} {cT_flow_comes : Nat → Int32} {cT_present_kind : Nat → Int32} {cT_flow_keeps : Nat → Int32} {cT_present_pool : Nat → Int32} {cT_flow_holds : Nat → Int32} {cT_present_store : Nat → Int32} {cT_told : Nat → Int32} {cT_present_spot : Nat → Int32} {k : Nat} (hV : VF f) (hC : CF f cT_present_kind cT_present_above cT_present_edge cT_present_pool cT_present_store cT_present_spot vT_present_basins vT_present_spring vT_present_hour vT_present_z) (hk1 : 1 ≤ k) (hk : k ≤ 12) (hl : f.hr + k ≤ 9999) : ∃ u : Int32 × Int32 × Int32 × Int32 × Int32 × Int32 × Int32 × Int32 × Int32 × Int32 × Int32 × (Nat → Int32) × (Nat → Int32) × (Nat → Int32) × (Nat → Int32) × (Nat → Int32) × (Nat → Int32) × (Nat → Int32) × (Nat → Int32), f_X7_weather (nI k) vT_present_basins vT_present_spring vT_present_hour vT_present_z vT_flow_kept vT_flow_leaked vT_flow_ranOff vT_flow_uneven vT_flow_keptInAll vT_flow_leakedInAll vT_flow_ranOffInAll cT_flow_width cT_present_above cT_present_edge cT_flow_goesOn cT_flow_comes cT_present_kind cT_flow_keeps cT_present_pool cT_flow_holds cT_present_store cT_told = some u ∧ (weatherQ f k u.1 ∧ ∃ g, yrQ f k g ∧ CF (g) cT_present_kind cT_present_above cT_present_edge u.2.2.2.2.2.2.2.2.2.2.2.2.2.2.2.1 u.2.2.2.2.2.2.2.2.2.2.2.2.2.2.2.2.2.1 cT_present_spot vT_present_basins u.2.1 u.2.2.1 u.2.2.2.1)
  := by
  have hG : VG f := VG_of hV
  have hh : f.hr ≤ 9999 := hV.2.2.2.1
  have hw1 : f_X7_within (nI k) (1 : Int32) (12 : Int32) = some (kI (rg 1 12 (nI k))) := within_n (by decide) (by decide) _
  unfold f_X7_weather
  rw [bd_t hw1, br_kI, br_t1 (rg_of hk1 hk), hC.2.2.1, bd_t (late7 hh (by omega)), ← hC.2.2.1, kI_f (by omega), br_t1 rfl]
  unfold f_X7_weather_L36
  refine lp_go3 k (fun i s => weatherQ f i s.1 ∧ s.2.1 = nI i ∧ ∃ g, yrQ f i g ∧ CF g cT_present_kind cT_present_above cT_present_edge s.2.2.2.2.2.2.2.2.2.2.2.2.2.2.2.2.1 s.2.2.2.2.2.2.2.2.2.2.2.2.2.2.2.2.2.2.1 cT_present_spot vT_present_basins s.2.2.1 s.2.2.2.1 s.2.2.2.2.1) ⟨⟨0, by omega, rfl⟩, rfl, f, ⟨hV, rfl, rfl⟩, hC⟩ (FU_gt (by omega)) ?_
  rintro i ⟨q2, q3, sg, hr, zz, v1, v2, v3, v4, v5, v6, v7, w1, w2, w3, w4, po, w5, st, tld⟩ hi ⟨⟨m0, hm0, a1⟩, a2, g, ⟨hVg, hgn, hgr⟩, hCg⟩ rc
  dsimp only at a1 a2 hCg ⊢
  subst a1 a2
  unfold f_X7_weather_L36_b
  by_cases hx : i = k
  · left
    subst hx
    rw [br_t1 (nI_le (Nat.le_refl _) (by omega))]
    exact ⟨_, rfl, ⟨m0, hm0, rfl⟩, g, ⟨hVg, hgn, hgr⟩, hCg⟩
  · right
    refine ⟨by omega, ?_⟩
    have hge : ¬ nI k ≤ nI i := nI_ge (by omega) (by omega)
    have hm : g.dm % 300 ≤ 99999 := by omega
    have hr3 : nI g.dm - nI g.dm / (300 : Int32) * (300 : Int32) = nI (g.dm % 300) := pk_rem (d := 300) (dm_lt g) (by decide) (by decide)
    have hV2 : VF ((g.setZ g.dz).setSg (g.dm % 300)) := VF_Sg (VF_Z hVg g.dz) hm
    obtain ⟨vk', vl', vr', vu', hr', w', g', c', k', p', h', s', hp, hpc, -⟩ := pass_c (VG_of hV2) (CF_Sg (CF_Z hCg g.dz) (g.dm % 300)) (k := 1) (by decide) v1 v2 v3 v4 v5 v6 v7 w1 w2 w3 w4 w5
    rw [br_f1 hge, bd_t (draw7 hCg.2.2.2.1)]
    dsimp only
    rw [hr3, bd_t (show f_X1_pass (1 : Int32) _ _ _ _ _ _ _ _ _ _ _ _ _ _ _ _ _ _ _ _ = _ from hp), nm_q]
    have e9 := hr_zs g g.dz (g.dm % 300)
    have e8 := n_zs g g.dz (g.dm % 300)
    have e7 := (it_same ((g.setZ g.dz).setSg (g.dm % 300)) 1).2.2.2.2.2.2.1
    have e6 := (it_same ((g.setZ g.dz).setSg (g.dm % 300)) 1).1
    have hk2 := kpT_le (VG_of hV2) 1
    refine ⟨_, ?_, rfl⟩
    refine ⟨⟨m0 + ((g.setZ g.dz).setSg (g.dm % 300)).kpT 1, by omega, nI_add _ _⟩, nI_1 i, _, ⟨VF_it hV2 (k := 1) (by omega), ?_, ?_⟩, hpc⟩
    · omega
    · omega
theorem wr_h {f g : Fo} (z1 z2 : Int32) {b v : Nat} (hv : v ≤ 6) (h : yrQ f 0 g) : yrQ f 0 (((g.setZ z1).setZ z2).setKd b v) := ⟨VF_Kd (VF_Z (VF_Z h.1 _) _) _ hv, h.2.1, h.2.2⟩
theorem wr_c {g : Fo} {kind above edge pool store spot : Nat → Int32} {basins spring hour z : Int32} (z1 z2 : Int32) (h : CF g kind above edge pool store spot basins spring hour z) (b v : Nat) : CF (((g.setZ z1).setZ z2).setKd b v) (upd kind b (nI v)) above edge pool store spot basins spring hour z2 := CF_Kd (CF_Z (CF_Z h z1) z2) b v
theorem S_wear {f : Fo} {vT_present_basins : Int32} {vT_present_spring : Int32} {vT_present_z : Int32} {cT_present_kind : Nat → Int32} {vT_flow_kept : Int32} {vT_flow_leaked : Int32} {vT_flow_ranOff : Int32} {vT_flow_uneven : Int32} {cT_flow_width : Nat → Int32} {cT_present_above : Nat → Int32} {cT_present_edge : Nat → Int32} {cT_flow_goesOn : Nat → Int32} {cT_flow_comes : Nat → Int32} {cT_flow_keeps : Nat → Int32} {cT_present_pool : Nat → Int32} {cT_flow_holds : Nat → Int32} {cT_told : Nat → Int32} {cT_present_store : Nat → Int32} {cT_present_spot : Nat → Int32} {vT_present_hour : Int32} {k : Nat} (hV : VF f) (hC : CF f cT_present_kind cT_present_above cT_present_edge cT_present_pool cT_present_store cT_present_spot vT_present_basins vT_present_spring vT_present_hour vT_present_z) (hn0 : f.n ≠ 0) (hk1 : 1 ≤ k) (hk : k ≤ 12) : ∃ u : Int32 × Int32 × (Nat → Int32) × Int32 × Int32 × Int32 × Int32 × (Nat → Int32) × (Nat → Int32) × (Nat → Int32) × (Nat → Int32) × (Nat → Int32) × (Nat → Int32), f_X7_wear (nI k) vT_present_basins vT_present_spring vT_present_z cT_present_kind vT_flow_kept vT_flow_leaked vT_flow_ranOff vT_flow_uneven cT_flow_width cT_present_above cT_present_edge cT_flow_goesOn cT_flow_comes cT_flow_keeps cT_present_pool cT_flow_holds cT_told = some u ∧ ((∃ m, m ≤ 999990 ∧ u.1 = nI m) ∧ ∃ g, yrQ f 0 g ∧ CF (g) u.2.2.1 cT_present_above cT_present_edge cT_present_pool cT_present_store cT_present_spot vT_present_basins vT_present_spring vT_present_hour u.2.1)
  := by
  have hn : f.n ≤ 10 := hV.1
  have hG : VG f := VG_of hV
  obtain rfl := hC.1
  have hw1 : f_X7_within (nI k) (1 : Int32) (12 : Int32) = some (kI (rg 1 12 (nI k))) := within_n (by decide) (by decide) _
  unfold f_X7_wear
  rw [bd_t hw1, br_kI, br_t1 (rg_of hk1 hk), br_t1 (show (0 : Int32) < nI f.n from nI_lt (a := 0) (by omega) (by omega))]
  unfold f_X7_wear_L38
  refine lp_go3 k (fun i s => s.1 = nI f.n ∧ s.2.1 = nI i ∧ ∃ g, yrQ f 0 g ∧ CF g s.2.2.2.1 cT_present_above cT_present_edge cT_present_pool cT_present_store cT_present_spot (nI f.n) vT_present_spring vT_present_hour s.2.2.1) ⟨rfl, rfl, f, ⟨hV, rfl, rfl⟩, hC⟩ (FU_gt (by omega)) ?_
  rintro i ⟨q2, q3, zz, kd, v1, v2, v3, v4, w1, w2, w3, w4, w5, tld⟩ hi ⟨a1, a2, g, ⟨hVg, hgn, hgr⟩, hCg⟩ rc
  dsimp only at a1 a2 hCg ⊢
  subst a1 a2
  unfold f_X7_wear_L38_b
  by_cases hx : i = k
  · left
    subst hx
    obtain ⟨w', g', c', k', h', hR, hv⟩ := reckon_e (VG_of hVg) (CG_of hCg) v1 v2 v3 v4 w1 w2 w3 w4 w5
    rw [← hCg.1, ← hCg.2.1] at hR
    rw [br_t1 (nI_le (Nat.le_refl _) (by omega))]
    unfold f_X7_wear_J80
    rw [bd_t hR]
    exact ⟨_, rfl, ⟨g.kpS, kpS_le (VG_of hVg), rfl⟩, g, ⟨hVg, hgn, hgr⟩, hCg⟩
  · right
    refine ⟨by omega, ?_⟩
    have hge : ¬ nI k ≤ nI i := nI_ge (by omega) (by omega)
    have hn1 : ¬ nI f.n = 0 := nI_ne 0 0 hn0
    have hr3 : nI g.dm - nI g.dm / nI f.n * nI f.n = nI (g.dm % f.n) := pk_rem (dm_lt g) (by omega) (by omega)
    have hb : g.dm % f.n < f.n := Nat.mod_lt _ (by omega)
    have hr7 : nI (g.setZ g.dz).dm - nI (g.setZ g.dz).dm / (7 : Int32) * (7 : Int32) = nI ((g.setZ g.dz).dm % 7) := pk_rem (d := 7) (dm_lt _) (by decide) (by decide)
    rw [br_f1 hge, bd_t (draw7 hCg.2.2.2.1)]
    dsimp only
    rw [gd_t hn1, hr3, nm_q, bd_t (show f_X2_draw g.dz = some (nI (g.setZ g.dz).dm, (g.setZ g.dz).dz) from draw7 (f := g.setZ g.dz) rfl)]
    dsimp only
    rw [hr7, gd_t (vp_in_nI (by omega) (by decide)), nI_clamp (by omega)]
    refine ⟨_, ?_, rfl⟩
    have hm7 : (g.setZ g.dz).dm % 7 ≤ 6 := by omega
    generalize (g.setZ g.dz).dm % 7 = m7 at hm7 ⊢
    generalize (g.setZ g.dz).dz = z2
    generalize g.dm % f.n = b2 at hb ⊢
    exact ⟨rfl, nI_1 i, ((g.setZ z2).setZ z2).setKd b2 m7, wr_h z2 z2 hm7 ⟨hVg, hgn, hgr⟩, wr_c z2 z2 hCg b2 m7⟩
theorem S_sheet {vT_pictured : Int32} {vT_sheets_bits : Nat → Int32} {vT_sheets_size : Nat → Int32} {cT_sheets_numbers : Nat → Nat → Int32} {cT_told : Nat → Int32} {n : Nat} (hn : n ≤ 40) : ∃ u : Int32 × (Nat → Int32) × (Nat → Int32) × (Nat → Nat → Int32) × (Nat → Int32), f_X7_sheet 0 32 (nI n) vT_pictured vT_sheets_bits vT_sheets_size cT_sheets_numbers cT_told = some u ∧ (u.1 = nI n ∧ u.2.1 0 = 32 ∧ u.2.2.1 0 = nI n)
  := by
  have vt : vp_in (0 : Int32) 4 := by unfold vp_in; decide
  unfold f_X7_sheet
  rw [br_t1 (ks0), br4_t (Or.inr (Or.inr (Or.inr rfl)))]
  unfold f_X7_sheet_J41
  obtain ⟨c, hc, hc0⟩ := begin_e 32 (nI n) (vT_sheets_bits 0) (vT_sheets_size 0) (cT_sheets_numbers 0)
  rw [br_t1 (show (0 : Int32) ≤ nI n from nI_le (a := 0) (by omega) (by omega)), br_t1 (show nI n ≤ (40 : Int32) from nI_le (b := 40) hn (by decide)), br_f1 (by decide), bd_t (show f_X5_begin 32 (nI n) (vT_sheets_bits (0 : Int32).toNatClampNeg) (vT_sheets_size (0 : Int32).toNatClampNeg) (cT_sheets_numbers (0 : Int32).toNatClampNeg) = _ from hc)]
  exact ⟨_, rfl, va_up_s (g := vT_sheets_size) (b := 0) (v := nI n), va_up_s (g := vT_sheets_bits) (b := 0) (v := (32 : Int32)), va_up_s (g := vT_sheets_size) (b := 0) (v := nI n)⟩
theorem S_write {vT_pictured : Int32} {vT_sheets_bits : Nat → Int32} {vT_sheets_size : Nat → Int32} {cT_sheets_numbers : Nat → Nat → Int32} {cT_told : Nat → Int32} {n k : Nat} {v : Int32} (hb : vT_sheets_bits 0 = 32) (hs : vT_sheets_size 0 = nI n) (hn : n ≤ 40) (hk : k < n) : ∃ u : Int32 × (Nat → Nat → Int32) × (Nat → Int32), f_X7_write 0 (nI k) v vT_pictured vT_sheets_bits vT_sheets_size cT_sheets_numbers cT_told = some u ∧ (u.1 = 1 ∧ u.2.1 0 k = v ∧ ∀ j, j ≠ k → u.2.1 0 j = cT_sheets_numbers 0 j)
  := by
  unfold f_X7_write
  have hv : vp_in (nI k) 40 := vp_in_nI (by omega) (by decide)
  have hb0 : vT_sheets_bits (0 : Int32).toNatClampNeg = 32 := hb
  have hs0 : vT_sheets_size (0 : Int32).toNatClampNeg = nI n := hs
  rw [br_t1 (ks0), hb0, hs0, bd_t (isMissing_1 (by decide)), br_t1 rfl, br_f1 (nI_pos (by omega)), br_t1 (nI_lt hk (by omega))]
  unfold f_X5_lowestBits
  rw [br_f1 (by decide), br_f1 (by decide), bd_t rfl, gd_t hv, nI_clamp (by omega)]
  refine ⟨_, rfl, rfl, ?_, fun j hj => ?_⟩
  · show va_up cT_sheets_numbers 0 (upd (cT_sheets_numbers 0) k v) 0 k = v
    rw [va_up_s, pk_us]
  · show va_up cT_sheets_numbers 0 (upd (cT_sheets_numbers 0) k v) 0 j = _
    rw [va_up_s, pk_un hj]
noncomputable def chE (f : Fo) (n : Nat) (nu : Nat → Int32) : Nat × Int32 × Int32 × Int32 := chS (expl f n nu) (-1) (nI (2 ^ f.n) - 1) (2 ^ f.n)
theorem S_chips {f : Fo} {vT_pictured : Int32} {vT_sheets_bits : Nat → Int32} {vT_sheets_size : Nat → Int32} {cT_sheets_numbers : Nat → Nat → Int32} {vT_trial_basins : Int32} {vT_trial_spring : Int32} {vT_trial_hour : Int32} {vT_trial_z : Int32} {vT_present_basins : Int32} {vT_present_spring : Int32} {vT_present_hour : Int32} {vT_present_z : Int32} {cT_present_kind : Nat → Int32} {cT_trial_kind : Nat → Int32} {cT_present_above : Nat → Int32} {cT_trial_above : Nat → Int32} {cT_present_edge : Nat → Int32} {cT_trial_edge : Nat → Int32} {cT_present_pool : Nat → Int32} {cT_trial_pool : Nat → Int32} {cT_present_store : Nat → Int32} {cT_trial_store : Nat → Int32} {cT_present_spot : Nat → Int32} {cT_trial_spot : Nat → Int32} {vT_search_sets : Int32} {vT_search_least : Int32} {vT_search_inAll : Int32} {vT_search_inAny : Int32} {vT_flow_kept : Int32} {vT_flow_leaked : Int32} {vT_flow_ranOff : Int32} {vT_flow_uneven : Int32} {cT_flow_width : Nat → Int32} {cT_flow_goesOn : Nat → Int32} {cT_flow_comes : Nat → Int32} {cT_flow_keeps : Nat → Int32} {cT_flow_holds : Nat → Int32} {cT_told : Nat → Int32} {n : Nat} (hV : VF f) (hC : CF f cT_present_kind cT_present_above cT_present_edge cT_present_pool cT_present_store cT_present_spot vT_present_basins vT_present_spring vT_present_hour vT_present_z) (hb : vT_sheets_bits 0 = 32) (hs : vT_sheets_size 0 = nI n) (hn40 : n ≤ 40) : ∃ u : Int32 × Int32 × Int32 × Int32 × Int32 × (Nat → Int32) × (Nat → Int32) × (Nat → Int32) × (Nat → Int32) × (Nat → Int32) × (Nat → Int32) × Int32 × Int32 × Int32 × Int32 × Int32 × Int32 × Int32 × Int32 × (Nat → Int32) × (Nat → Int32) × (Nat → Int32) × (Nat → Int32) × (Nat → Int32) × (Nat → Int32), f_X7_chips 0 vT_pictured vT_sheets_bits vT_sheets_size cT_sheets_numbers vT_trial_basins vT_trial_spring vT_trial_hour vT_trial_z vT_present_basins vT_present_spring vT_present_hour vT_present_z cT_present_kind cT_trial_kind cT_present_above cT_trial_above cT_present_edge cT_trial_edge cT_present_pool cT_trial_pool cT_present_store cT_trial_store cT_present_spot cT_trial_spot vT_search_sets vT_search_least vT_search_inAll vT_search_inAny vT_flow_kept vT_flow_leaked vT_flow_ranOff vT_flow_uneven cT_flow_width cT_flow_goesOn cT_flow_comes cT_flow_keeps cT_flow_holds cT_told = some u ∧ (u.1 = nI (chE f n (cT_sheets_numbers 0)).1)
  := by
  have hn : f.n ≤ 10 := hV.1
  obtain rfl := hC.1
  obtain rfl := hC.2.1
  obtain rfl := hC.2.2.1
  have hG : VG f := VG_of hV
  have hh : f.hr ≤ 9999 := hV.2.2.2.1
  have hb0 : vT_sheets_bits (0 : Int32).toNatClampNeg = 32 := hb
  have hs0 : vT_sheets_size (0 : Int32).toNatClampNeg = nI n := hs
  unfold f_X7_chips
  obtain ⟨tk', ta', te', tp', ts', tt', hSt, hCt⟩ := start_e hn hC vT_trial_basins vT_trial_spring vT_trial_hour vT_trial_z cT_trial_kind cT_trial_above cT_trial_edge cT_trial_pool cT_trial_store cT_trial_spot
  rw [br_t1 (ks0), hb0, bd_t (isMissing_1 (by decide)), br_t1 rfl, bd_t hSt, hs0]
  dsimp only
  obtain ⟨r5, r6, r7, r8, r9, r10, r11, r12, r13, r14, hL⟩ := look7_e hG hCt hn40 (cT_sheets_numbers 0) vT_search_sets vT_search_least vT_search_inAll vT_search_inAny vT_flow_kept vT_flow_leaked vT_flow_ranOff vT_flow_uneven cT_flow_width cT_flow_goesOn cT_flow_comes cT_flow_keeps cT_flow_holds
  rw [bd_t (show f_X0_look _ _ _ _ _ _ _ _ _ _ _ _ _ _ _ _ _ _ _ _ (cT_sheets_numbers (0 : Int32).toNatClampNeg) = _ from hL)]
  exact ⟨_, rfl, rfl⟩
def chpQ (f : Fo) (n w : Nat) (nu : Nat → Int32) (a : Int32) : Prop := ((chE f n nu).1 = 0 ∧ a = -1000004) ∨ ((chE f n nu).1 ≠ 0 ∧ a = if w = 0 then (chE f n nu).2.1 else if w = 1 then (chE f n nu).2.2.1 else (chE f n nu).2.2.2)
theorem S_chipped {f : Fo} {vT_pictured : Int32} {vT_sheets_bits : Nat → Int32} {vT_sheets_size : Nat → Int32} {cT_sheets_numbers : Nat → Nat → Int32} {vT_trial_basins : Int32} {vT_trial_spring : Int32} {vT_trial_hour : Int32} {vT_trial_z : Int32} {vT_present_basins : Int32} {vT_present_spring : Int32} {vT_present_hour : Int32} {vT_present_z : Int32} {cT_present_kind : Nat → Int32} {cT_trial_kind : Nat → Int32} {cT_present_above : Nat → Int32} {cT_trial_above : Nat → Int32} {cT_present_edge : Nat → Int32} {cT_trial_edge : Nat → Int32} {cT_present_pool : Nat → Int32} {cT_trial_pool : Nat → Int32} {cT_present_store : Nat → Int32} {cT_trial_store : Nat → Int32} {cT_present_spot : Nat → Int32} {cT_trial_spot : Nat → Int32} {vT_search_sets : Int32} {vT_search_least : Int32} {vT_search_inAll : Int32} {vT_search_inAny : Int32} {vT_flow_kept : Int32} {vT_flow_leaked : Int32} {vT_flow_ranOff : Int32} {vT_flow_uneven : Int32} {cT_flow_width : Nat → Int32} {cT_flow_goesOn : Nat → Int32} {cT_flow_comes : Nat → Int32} {cT_flow_keeps : Nat → Int32} {cT_flow_holds : Nat → Int32} {cT_told : Nat → Int32} {n w : Nat} (hV : VF f) (hC : CF f cT_present_kind cT_present_above cT_present_edge cT_present_pool cT_present_store cT_present_spot vT_present_basins vT_present_spring vT_present_hour vT_present_z) (hw2 : w ≤ 2) (hb : vT_sheets_bits 0 = 32) (hs : vT_sheets_size 0 = nI n) (hn40 : n ≤ 40) : ∃ u : Int32 × Int32 × Int32 × Int32 × Int32 × (Nat → Int32) × (Nat → Int32) × (Nat → Int32) × (Nat → Int32) × (Nat → Int32) × (Nat → Int32) × Int32 × Int32 × Int32 × Int32 × Int32 × Int32 × Int32 × Int32 × (Nat → Int32) × (Nat → Int32) × (Nat → Int32) × (Nat → Int32) × (Nat → Int32) × (Nat → Int32), f_X7_chipped 0 (nI w) vT_pictured vT_sheets_bits vT_sheets_size cT_sheets_numbers vT_trial_basins vT_trial_spring vT_trial_hour vT_trial_z vT_present_basins vT_present_spring vT_present_hour vT_present_z cT_present_kind cT_trial_kind cT_present_above cT_trial_above cT_present_edge cT_trial_edge cT_present_pool cT_trial_pool cT_present_store cT_trial_store cT_present_spot cT_trial_spot vT_search_sets vT_search_least vT_search_inAll vT_search_inAny vT_flow_kept vT_flow_leaked vT_flow_ranOff vT_flow_uneven cT_flow_width cT_flow_goesOn cT_flow_comes cT_flow_keeps cT_flow_holds cT_told = some u ∧ (chpQ f n w (cT_sheets_numbers 0) u.1)
  := by
  have hn : f.n ≤ 10 := hV.1
  obtain rfl := hC.1
  obtain rfl := hC.2.1
  obtain rfl := hC.2.2.1
  have hG : VG f := VG_of hV
  have hh : f.hr ≤ 9999 := hV.2.2.2.1
  have h71 : f_X7_within (nI w) (0 : Int32) (2 : Int32) = some (kI (rg 0 2 (nI w))) := within_n (by decide) (by decide) _
  have hb0 : vT_sheets_bits (0 : Int32).toNatClampNeg = 32 := hb
  have hs0 : vT_sheets_size (0 : Int32).toNatClampNeg = nI n := hs
  unfold f_X7_chipped
  obtain ⟨tk', ta', te', tp', ts', tt', hSt, hCt⟩ := start_e hn hC vT_trial_basins vT_trial_spring vT_trial_hour vT_trial_z cT_trial_kind cT_trial_above cT_trial_edge cT_trial_pool cT_trial_store cT_trial_spot
  rw [br_t1 (ks0), bd_t h71, br_kI, br_t1 (rg_of (by omega) hw2), hb0, bd_t (isMissing_1 (by decide)), br_t1 rfl, bd_t hSt, hs0]
  dsimp only
  obtain ⟨r5, r6, r7, r8, r9, r10, r11, r12, r13, r14, hL⟩ := look7_e hG hCt hn40 (cT_sheets_numbers 0) vT_search_sets vT_search_least vT_search_inAll vT_search_inAny vT_flow_kept vT_flow_leaked vT_flow_ranOff vT_flow_uneven cT_flow_width cT_flow_goesOn cT_flow_comes cT_flow_keeps cT_flow_holds
  have hle := chS_le (E := expl f n (cT_sheets_numbers 0)) (l := -1) (a := nI (2 ^ f.n) - 1) (2 ^ f.n)
  have hpw := pow_le hn
  rw [bd_t (show f_X0_look _ _ _ _ _ _ _ _ _ _ _ _ _ _ _ _ _ _ _ _ (cT_sheets_numbers (0 : Int32).toNatClampNeg) = _ from hL)]
  dsimp only
  by_cases h0 : (chS (expl f n (cT_sheets_numbers 0)) (-1) (nI (2 ^ f.n) - 1) (2 ^ f.n)).1 = 0
  · rw [br_t1 (by rw [h0]; rfl), bd_t (tell3 _)]
    exact ⟨_, rfl, Or.inl ⟨h0, rfl⟩⟩
  · rw [br_f1 (nI_ne 0 0 h0)]
    rcases (show w = 0 ∨ w = 1 ∨ w = 2 by omega) with rfl | rfl | rfl
    · rw [br_t1 (by decide)]
      exact ⟨_, rfl, Or.inr ⟨h0, rfl⟩⟩
    · rw [br_f1 (by decide), br_t1 (by decide)]
      exact ⟨_, rfl, Or.inr ⟨h0, rfl⟩⟩
    · rw [br_f1 (by decide), br_f1 (by decide)]
      exact ⟨_, rfl, Or.inr ⟨h0, rfl⟩⟩
/-- a fraction, or that it is too large -/
def frQ (o : Option (Nat × Nat)) (w : Nat) (a : Int64) : Prop := (∃ r, o = some r ∧ a = lN (if w = 0 then r.1 else r.2)) ∨ (o = none ∧ a = -1000007)
theorem S_share {f : Fo} {vT_present_basins : Int32} {cT_told : Nat → Int32} {vT_shares_top : Int64} {vT_shares_bottom : Int64} {cT_present_above : Nat → Int32} {cT_shares_onTop : Nat → Int64} {cT_shares_onBottom : Nat → Int64} {cT_shares_onFits : Nat → Int32} {cT_present_edge : Nat → Int32} {cT_present_kind : Nat → Int32} {cT_shares_keptTop : Nat → Int64} {cT_shares_keptBottom : Nat → Int64} {cT_shares_keptFits : Nat → Int32} {cT_present_pool : Nat → Int32} {cT_present_store : Nat → Int32} {cT_present_spot : Nat → Int32} {vT_present_spring : Int32} {vT_present_hour : Int32} {vT_present_z : Int32} {b w : Nat} (hV : VF f) (hC : CF f cT_present_kind cT_present_above cT_present_edge cT_present_pool cT_present_store cT_present_spot vT_present_basins vT_present_spring vT_present_hour vT_present_z) (hb : b < f.n) (hw : w ≤ 1) : ∃ u : Int64 × (Nat → Int32) × Int64 × Int64 × (Nat → Int64) × (Nat → Int64) × (Nat → Int32) × (Nat → Int64) × (Nat → Int64) × (Nat → Int32), f_X7_share (nI b) (nI w) vT_present_basins cT_told vT_shares_top vT_shares_bottom cT_present_above cT_shares_onTop cT_shares_onBottom cT_shares_onFits cT_present_edge cT_present_kind cT_shares_keptTop cT_shares_keptBottom cT_shares_keptFits = some u ∧ (frQ (f.keptF b) w u.1)
  := by
  have hn : f.n ≤ 10 := hV.1
  obtain rfl := hC.1
  obtain rfl := hC.2.1
  obtain rfl := hC.2.2.1
  have hG : VG f := VG_of hV
  have hh : f.hr ≤ 9999 := hV.2.2.2.1
  have h71 : f_X7_within (nI w) (0 : Int32) (1 : Int32) = some (kI (rg 0 1 (nI w))) := within_n (by decide) (by decide) _
  have v : vp_in (nI b) 10 := vp_in_nI (by omega) (by decide)
  unfold f_X7_share
  obtain ⟨t, u, oT, oB, oF, kT, kB, kF, hR, -, hK⟩ := reck7 hG (fun o ho => (hC.2.2.2.2.1 o ho).2.1) (fun o ho => (hC.2.2.2.2.1 o ho).2.2.1) (fun o ho => (hC.2.2.2.2.1 o ho).1) vT_shares_top vT_shares_bottom cT_shares_onTop cT_shares_onBottom cT_shares_onFits cT_shares_keptTop cT_shares_keptBottom cT_shares_keptFits
  rw [bd_t (isB7 (by omega) _), br_kI, br_t1 (isb_of hb), bd_t h71, br_kI, br_t1 (rg_of (by omega) hw), bd_t hR]
  dsimp only
  rw [gd_t v, nI_clamp (by omega)]
  rcases hK b hb with ⟨r, h3, h4, h5, h6⟩ | ⟨h3, h4⟩
  · rw [h4, br_f1 (by decide)]
    rcases (show w = 0 ∨ w = 1 by omega) with rfl | rfl
    · rw [br_t1 (by decide), gd_t v]
      exact ⟨_, rfl, Or.inl ⟨r, h3, h5⟩⟩
    · rw [br_f1 (by decide), gd_t v]
      exact ⟨_, rfl, Or.inl ⟨r, h3, h6⟩⟩
  · rw [h4, br_t1 rfl, bd_t (tell6 _)]
    exact ⟨_, rfl, Or.inr ⟨h3, rfl⟩⟩
noncomputable def Fo.restF (f : Fo) (b : Nat) : Option (Nat × Nat) := if f.wd b = 0 then f.onF b else some (0, 1)
theorem S_rest {f : Fo} {vT_present_basins : Int32} {cT_told : Nat → Int32} {cT_present_above : Nat → Int32} {cT_present_edge : Nat → Int32} {vT_shares_top : Int64} {vT_shares_bottom : Int64} {cT_shares_onTop : Nat → Int64} {cT_shares_onBottom : Nat → Int64} {cT_shares_onFits : Nat → Int32} {cT_present_kind : Nat → Int32} {cT_shares_keptTop : Nat → Int64} {cT_shares_keptBottom : Nat → Int64} {cT_shares_keptFits : Nat → Int32} {cT_present_pool : Nat → Int32} {cT_present_store : Nat → Int32} {cT_present_spot : Nat → Int32} {vT_present_spring : Int32} {vT_present_hour : Int32} {vT_present_z : Int32} {b w : Nat} (hV : VF f) (hC : CF f cT_present_kind cT_present_above cT_present_edge cT_present_pool cT_present_store cT_present_spot vT_present_basins vT_present_spring vT_present_hour vT_present_z) (hb : b < f.n) (hw : w ≤ 1) : ∃ u : Int64 × (Nat → Int32) × Int64 × Int64 × (Nat → Int64) × (Nat → Int64) × (Nat → Int32) × (Nat → Int64) × (Nat → Int64) × (Nat → Int32), f_X7_rest (nI b) (nI w) vT_present_basins cT_told cT_present_above cT_present_edge vT_shares_top vT_shares_bottom cT_shares_onTop cT_shares_onBottom cT_shares_onFits cT_present_kind cT_shares_keptTop cT_shares_keptBottom cT_shares_keptFits = some u ∧ (frQ (f.restF b) w u.1)
  := by
  have hn : f.n ≤ 10 := hV.1
  obtain rfl := hC.1
  obtain rfl := hC.2.1
  obtain rfl := hC.2.2.1
  have hG : VG f := VG_of hV
  have hh : f.hr ≤ 9999 := hV.2.2.2.1
  have h71 : f_X7_within (nI w) (0 : Int32) (1 : Int32) = some (kI (rg 0 1 (nI w))) := within_n (by decide) (by decide) _
  have v : vp_in (nI b) 10 := vp_in_nI (by omega) (by decide)
  have hw9 : f.wd b ≤ 90 := wd_le hG f.n b (Nat.le_refl _)
  unfold f_X7_rest
  obtain ⟨t, u, oT, oB, oF, kT, kB, kF, hR, hO, -⟩ := reck7 hG (fun o ho => (hC.2.2.2.2.1 o ho).2.1) (fun o ho => (hC.2.2.2.2.1 o ho).2.2.1) (fun o ho => (hC.2.2.2.2.1 o ho).1) vT_shares_top vT_shares_bottom cT_shares_onTop cT_shares_onBottom cT_shares_onFits cT_shares_keptTop cT_shares_keptBottom cT_shares_keptFits
  rw [bd_t (isB7 (by omega) _), br_kI, br_t1 (isb_of hb), bd_t h71, br_kI, br_t1 (rg_of (by omega) hw), bd_t (width7 hG (fun o ho => (hC.2.2.2.2.1 o ho).2.1) (fun o ho => (hC.2.2.2.2.1 o ho).2.2.1) hb)]
  by_cases hz : f.wd b = 0
  · rw [br_t1 (show nI (f.wd b) ≤ 0 by rw [hz]; decide), bd_t hR]
    dsimp only
    rw [gd_t v, nI_clamp (by omega), show f.restF b = f.onF b from if_pos hz]
    rcases hO b hb with ⟨r, h3, h4, h5, h6⟩ | ⟨h3, h4⟩
    · rw [h4, br_f1 (by decide)]
      rcases (show w = 0 ∨ w = 1 by omega) with rfl | rfl
      · rw [br_t1 (by decide), gd_t v]
        exact ⟨_, rfl, Or.inl ⟨r, h3, h5⟩⟩
      · rw [br_f1 (by decide), gd_t v]
        exact ⟨_, rfl, Or.inl ⟨r, h3, h6⟩⟩
    · rw [h4, br_t1 rfl, bd_t (tell6 _)]
      exact ⟨_, rfl, Or.inr ⟨h3, rfl⟩⟩
  · rw [br_f1 (nI_nle (by omega) (by omega)), show f.restF b = some (0, 1) from if_neg hz]
    rcases (show w = 0 ∨ w = 1 by omega) with rfl | rfl
    · exact ⟨_, rfl, Or.inl ⟨_, rfl, rfl⟩⟩
    · exact ⟨_, rfl, Or.inl ⟨_, rfl, rfl⟩⟩
