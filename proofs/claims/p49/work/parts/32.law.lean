/-! ===== cases law, deal ===== -/
/-- kinds: the first i are c, the others as told -/
def Fo.kdP (f : Fo) (K : Nat → Nat) (c i : Nat) : Fo := (f.n, fun b => if b < i then c else K b, f.ab, f.ed, f.po, f.st, f.sp, f.sg, f.hr, f.z)
def Fo.allK (f : Fo) (c : Nat) : Fo := (f.n, fun _ => c, f.ab, f.ed, f.po, f.st, f.sp, f.sg, f.hr, f.z)
theorem VG_allK {f : Fo} (h : VG f) {c : Nat} (hc : c ≤ 6) : VG (f.allK c) := by
  refine ⟨h.1, fun j hj => ?_, h.2.2⟩
  obtain ⟨h1, h2, h3, h4, h5⟩ := h.2.1 j hj
  exact ⟨hc, h2, h3, h4, h5⟩
theorem CF_kdP_s {f : Fo} {K : Nat → Nat} {c i : Nat} {kind above edge pool store spot : Nat → Int32} {basins spring hour z : Int32} (h : CF (f.kdP K c i) kind above edge pool store spot basins spring hour z) : CF (f.kdP K c (i + 1)) (upd kind i (nI c)) above edge pool store spot basins spring hour z := by
  obtain ⟨h0, h1, h2, h3, h4, h5⟩ := h
  refine ⟨h0, h1, h2, h3, fun j hj => ?_, h5⟩
  obtain ⟨a1, a2, a3, a4, a5⟩ := h4 j hj
  refine ⟨?_, a2, a3, a4, a5⟩
  show upd kind i (nI c) j = nI (if j < i + 1 then c else K j)
  by_cases e : j = i
  · rw [e, pk_us, if_pos (by omega)]
  · rw [pk_un e, a1]
    show nI (if j < i then c else K j) = _
    by_cases q : j < i
    · rw [if_pos q, if_pos (by omega)]
    · rw [if_neg q, if_neg (by omega)]
theorem CF_kdP_n {f : Fo} {K : Nat → Nat} {c : Nat} {kind above edge pool store spot : Nat → Int32} {basins spring hour z : Int32} (h : CF (f.kdP K c f.n) kind above edge pool store spot basins spring hour z) : CF (f.allK c) kind above edge pool store spot basins spring hour z := by
  obtain ⟨h0, h1, h2, h3, h4, h5⟩ := h
  refine ⟨h0, h1, h2, h3, fun j hj => ?_, h5⟩
  obtain ⟨a1, a2, a3, a4, a5⟩ := h4 j hj
  exact ⟨a1.trans (congrArg nI (if_pos hj)), a2, a3, a4, a5⟩
theorem MF_kdP_s {f : Fo} (hn : f.n ≤ 10) {K : Nat → Nat} {c i : Nat} (hi : i < f.n) {d : Nat → Int32} (h : MF (f.kdP K c i) d) : MF (f.kdP K c (i + 1)) (upd d (4 + 5 * i + 0) (nI c)) := by
  have h2 := MF_Kd h hn hi c
  refine MF_eq (f := (f.kdP K c i).setKd i c) (g := f.kdP K c (i + 1)) h2 rfl rfl rfl rfl (fun _ _ => rfl) (fun b hb => ⟨?_, fun _ => rfl, rfl, rfl, rfl⟩)
  show (if b < i + 1 then c else K b) = fset (fun b => if b < i then c else K b) i c b
  by_cases e : b = i
  · rw [e, fset_s, if_pos (by omega)]
  · rw [fset_n e]
    by_cases q : b < i
    · rw [if_pos q, if_pos (by omega)]
    · rw [if_neg q, if_neg (by omega)]
theorem MF_kdP_n {f : Fo} {K : Nat → Nat} {c : Nat} {d : Nat → Int32} (h : MF (f.kdP K c f.n) d) : MF (f.allK c) d :=
  MF_eq (f := f.kdP K c f.n) (g := f.allK c) h rfl rfl rfl rfl (fun _ _ => rfl) (fun b hb => ⟨(if_pos hb).symm, fun _ => rfl, rfl, rfl, rfl⟩)
theorem lp_in {σ α τ : Type} {step : (σ → Option α) → σ → Option α} {s0 : σ} {rc : τ → Option α} {J : τ → Prop} (n : Nat) (I : Nat → σ → Prop) (h0 : I 0 s0) (hn : n < FU)
    (h : ∀ i s, i ≤ n → I i s → ∀ rd, (∃ s', J s' ∧ step rd s = rc s') ∨ (i < n ∧ ∃ s', I (i + 1) s' ∧ step rd s = rd s')) : ∃ s', J s' ∧ lp step FU s0 = rc s' :=
  lp_go2 step I n (fun o => ∃ s', J s' ∧ o = rc s') h s0 h0 hn
theorem lp_two5i {σ α τ β : Type} {f : (σ → Option α) → σ → Option α} {g : (τ → Option β) → τ → Option β} (P : Option α → Option β → Prop) (n : Nat) (I : Nat → σ → τ → Prop)
    (h : ∀ i s t, i ≤ n → I i s t → ∀ rc rd, P (f rc s) (g rd t) ∨ (i < n ∧ ∃ s' t', I (i + 1) s' t' ∧ f rc s = rc s' ∧ g rd t = rd t')) :
    ∀ (d i : Nat) (s : σ) (t : τ) (k : Nat), n - i ≤ d → i ≤ n → I i s t → d < k → P (lp f k s) (lp g k t) := by
  intro d
  induction d with
  | zero =>
    intro i s t k hd hi hI hk
    obtain ⟨k', rfl⟩ : ∃ k', k = k' + 1 := ⟨k - 1, by omega⟩
    rcases h i s t hi hI (lp f k') (lp g k') with h1 | ⟨h1, -⟩
    · exact h1
    · omega
  | succ d ih =>
    intro i s t k hd hi hI hk
    obtain ⟨k', rfl⟩ : ∃ k', k = k' + 1 := ⟨k - 1, by omega⟩
    rcases h i s t hi hI (lp f k') (lp g k') with h1 | ⟨h1, s', t', hI', hs, ht⟩
    · exact h1
    · show P (f (lp f k') s) (g (lp g k') t)
      rw [hs, ht]
      exact ih (i + 1) s' t' k' (by omega) h1 hI' (by omega)
/-- two loops side by side, within two others -/
theorem lp_two5 {σ α τ β σ' τ' : Type} {f : (σ → Option α) → σ → Option α} {g : (τ → Option β) → τ → Option β} {s : σ} {t : τ} {rc : σ' → Option α} {rd : τ' → Option β} {R : α → β → Prop} {A : Prop} {J : σ' → τ' → Prop} (n : Nat) (I : Nat → σ → τ → Prop) (i0 : Nat) (hi0 : i0 ≤ n) (h0 : I i0 s t) (hn : n < FU)
    (h : ∀ i s t, i ≤ n → I i s t → ∀ rc2 rd2, ((∃ a b, f rc2 s = some a ∧ g rd2 t = some b ∧ R a b) ∨ (A ∧ ∃ s' t', J s' t' ∧ f rc2 s = rc s' ∧ g rd2 t = rd t')) ∨ (i < n ∧ ∃ s' t', I (i + 1) s' t' ∧ f rc2 s = rc2 s' ∧ g rd2 t = rd2 t')) :
    (∃ a b, lp f FU s = some a ∧ lp g FU t = some b ∧ R a b) ∨ (A ∧ ∃ s' t', J s' t' ∧ lp f FU s = rc s' ∧ lp g FU t = rd t') :=
  lp_two5i (fun x y => (∃ a b, x = some a ∧ y = some b ∧ R a b) ∨ (A ∧ ∃ s' t', J s' t' ∧ x = rc s' ∧ y = rd t')) n I h n i0 s t FU (by omega) hi0 h0 hn
theorem lp_two6 {σ α τ β : Type} {f : (σ → Option α) → σ → Option α} {g : (τ → Option β) → τ → Option β} {s : σ} {t : τ} {R : α → β → Prop} (n : Nat) (I : Nat → σ → τ → Prop) (i0 : Nat) (hi0 : i0 ≤ n) (h0 : I i0 s t) (hn : n < FU)
    (h : ∀ i s t, i ≤ n → I i s t → ∀ rc rd, (∃ a b, f rc s = some a ∧ g rd t = some b ∧ R a b) ∨ (i < n ∧ ∃ s' t', I (i + 1) s' t' ∧ f rc s = rc s' ∧ g rd t = rd t')) : ∃ a b, lp f FU s = some a ∧ lp g FU t = some b ∧ R a b :=
  lp_two4i n I h n i0 s t FU (by omega) hi0 h0 hn
theorem both_e {f : Fo} (hV : VG f) {kind above edge pool store spot : Nat → Int32} {basins spring hour z : Int32} (hC : CF f kind above edge pool store spot basins spring hour z) {a b k : Nat} (ha : 1 ≤ a) (hab : a < b) (hb : b < f.n) (hba : f.ab b < a) (hk : k ≤ 1000) (tb ts th tz : Int32) (tk ta te tp tst tsp : Nat → Int32) (v1 v2 v3 v4 v5 v6 v7 : Int32) (w1 w2 w3 w4 w5 us : Nat → Int32) (hu : ∀ o, o < f.n → us o = nI (f.gt k o)) :
    ∃ (tb' ts' th' tz' : Int32) (tk' ta' te' tp' tst' tsp' : Nat → Int32) (v1' v2' v3' v4' v5' v6' v7' : Int32) (w1' w2' w3' w4' w5' : Nat → Int32), f_X7_bothGain (nI a) (nI b) (nI k) tb ts th tz basins spring hour z kind tk above ta edge te pool tp store tst spot tsp v1 v2 v3 v4 v5 v6 v7 w1 w2 w3 w4 w5 us
      = some (kI (¬ nI (((f.setAb a (f.ab b)).setAb b (f.ab a)).gt k a) ≤ nI (f.gt k a) ∧ ¬ nI (((f.setAb a (f.ab b)).setAb b (f.ab a)).gt k b) ≤ nI (f.gt k b)), tb', ts', th', tz', tk', ta', te', tp', tst', tsp', v1', v2', v3', v4', v5', v6', v7', w1', w2', w3', w4', w5') := by
  have hn := hV.1
  have haa : f.ab a < a := (hV.2.1 a (by omega)).2.2.2.2 ha
  unfold f_X7_bothGain
  obtain ⟨tk', ta', te', tp', ts', tt', hSt, hCt⟩ := start_e hn hC tb ts th tz tk ta te tp tst tsp
  have hAb := (hC.2.2.2.2.1 b hb).2.1
  have hAa := (hC.2.2.2.2.1 a (by omega)).2.1
  rw [abI_s _ (by omega)] at hAb hAa
  have hCe := CF_Ab (CF_Ab hCt (b := a) (by omega) (f.ab b)) (b := b) (by omega) (f.ab a)
  have hV2 : VG ((f.setAb a (f.ab b)).setAb b (f.ab a)) := VG_Ab (VG_Ab hV hba) (by omega)
  have va : vp_in (nI a) 10 := vp_in_nI (by omega) (by decide)
  have vb : vp_in (nI b) 10 := vp_in_nI (by omega) (by decide)
  obtain ⟨vk', vl', vr', vu', w', g', c', k', p', h', s', hp, hpv⟩ := pass_e2 hV2 hCe (k := k) hk v1 v2 v3 v4 v5 v6 v7 w1 w2 w3 w4 w5
  have hga := gain_e2 (f := f) (g := (f.setAb a (f.ab b)).setAb b (f.ab a)) hn (show a < f.n by omega) rfl (hpv a (show a < f.n by omega)).2.1 (hC.2.2.2.2.1 a (by omega)).2.2.2.2
  have hgb := gain_e2 (f := f) (g := (f.setAb a (f.ab b)).setAb b (f.ab a)) hn hb rfl (hpv b hb).2.1 (hC.2.2.2.2.1 b hb).2.2.2.2
  rw [bd_t hSt]
  dsimp only
  rw [gd_t vb, gd_t va, gd_t va, gd_t vb, nI_clamp (show a < 2 ^ 31 by omega), nI_clamp (show b < 2 ^ 31 by omega), hAb, hAa, bd_t hp]
  dsimp only
  rw [bd_t hga, gd_t va, hu a (by omega)]
  by_cases q : nI (((f.setAb a (f.ab b)).setAb b (f.ab a)).gt k a) ≤ nI (f.gt k a)
  · rw [br_t1 q, kI_f (fun z => z.1 q)]
    exact ⟨_, _, _, _, _, _, _, _, _, _, _, _, _, _, _, _, _, _, _, _, _, _, rfl⟩
  · rw [br_f1 q, bd_t hgb, gd_t vb, hu b hb]
    by_cases q2 : nI (((f.setAb a (f.ab b)).setAb b (f.ab a)).gt k b) ≤ nI (f.gt k b)
    · rw [br_t1 q2, kI_f (fun z => z.2 q2)]
      exact ⟨_, _, _, _, _, _, _, _, _, _, _, _, _, _, _, _, _, _, _, _, _, _, rfl⟩
    · rw [br_f1 q2, kI_t ⟨q, q2⟩]
      exact ⟨_, _, _, _, _, _, _, _, _, _, _, _, _, _, _, _, _, _, _, _, _, _, rfl⟩
