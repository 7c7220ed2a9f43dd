/-! ===== shares: the class ===== -/
noncomputable def chk (r : Nat × Nat) : Option (Nat × Nat) := @ite _ (bigF r) (Classical.propDecidable _) none (some r)
theorem chk_f {r : Nat × Nat} (h : bigF r) : chk r = none := by unfold chk; exact if_pos h
theorem chk_t {r : Nat × Nat} (h : ¬ bigF r) : chk r = some r := by unfold chk; exact if_neg h
def lkF (k : Nat) : Nat × Nat := if k = 2 then (9, 10) else if k = 4 then (4, 5) else (1, 1)
def kpF (k : Nat) : Nat × Nat := if k = 3 then (0, 3) else if k = 1 then (2, 5) else (1, 3)
def goF (k : Nat) : Nat × Nat := if k = 3 then (1, 1) else if k = 1 then (3, 5) else (2, 3)
noncomputable def leftOf (k : Nat) (o : Option (Nat × Nat)) : Option (Nat × Nat) := o.bind fun c => chk (mulF c (lkF k))
noncomputable def keptOf (k : Nat) (o : Option (Nat × Nat)) : Option (Nat × Nat) := (leftOf k o).bind fun l => chk (mulF l (kpF k))
noncomputable def onOf (k : Nat) (o : Option (Nat × Nat)) : Option (Nat × Nat) := (keptOf k o).bind fun _ => (leftOf k o).bind fun l => chk (mulF l (goF k))
noncomputable def Fo.comeF (f : Fo) (b : Nat) : Option (Nat × Nat) :=
  if h : 1 ≤ b ∧ f.ab b < b then (onOf (f.kd (f.ab b)) (Fo.comeF f (f.ab b))).bind (fun r => chk (mulF r (f.ed b, f.wd (f.ab b)))) else some (1, 1)
termination_by b
decreasing_by exact h.2
noncomputable def Fo.keptF (f : Fo) (b : Nat) : Option (Nat × Nat) := keptOf (f.kd b) (f.comeF b)
noncomputable def Fo.onF (f : Fo) (b : Nat) : Option (Nat × Nat) := onOf (f.kd b) (f.comeF b)
theorem comeF_0 (f : Fo) : f.comeF 0 = some (1, 1) := by rw [Fo.comeF, dif_neg (by omega)]
theorem comeF_s {f : Fo} {b : Nat} (h1 : 1 ≤ b) (h : f.ab b < b) : f.comeF b = (f.onF (f.ab b)).bind (fun r => chk (mulF r (f.ed b, f.wd (f.ab b)))) := by rw [Fo.comeF, dif_pos ⟨h1, h⟩]; rfl
/-- a fraction as it may be -/
def vF (r : Nat × Nat) : Prop := redF r ∧ r.1 ≤ 100000000000 ∧ r.2 ≤ 100000000000
theorem vF_1 : vF (1, 1) := ⟨⟨by decide, by decide⟩, by decide, by decide⟩
theorem vF_chk {r x s : Nat × Nat} (h1 : 1 ≤ r.2) (h2 : 1 ≤ x.2) (h : chk (mulF r x) = some s) : vF s ∧ s = mulF r x ∧ ¬ bigF (mulF r x) := by
  by_cases hb : bigF (mulF r x)
  · rw [chk_f hb] at h; cases h
  · rw [chk_t hb] at h
    injection h with h
    subst h
    refine ⟨⟨mulF_red h1 h2, ?_, ?_⟩, rfl, hb⟩
    · exact Nat.not_lt.mp (fun q => hb (Or.inl q))
    · exact Nat.not_lt.mp (fun q => hb (Or.inr q))
theorem lkF_ok (k : Nat) : (lkF k).1 ≤ 90 ∧ 1 ≤ (lkF k).2 ∧ (lkF k).2 ≤ 90 := by
  unfold lkF
  repeat' split
  all_goals decide
theorem kpF_ok (k : Nat) : (kpF k).1 ≤ 90 ∧ 1 ≤ (kpF k).2 ∧ (kpF k).2 ≤ 90 := by
  unfold kpF
  repeat' split
  all_goals decide
theorem goF_ok (k : Nat) : (goF k).1 ≤ 90 ∧ 1 ≤ (goF k).2 ∧ (goF k).2 ≤ 90 := by
  unfold goF
  repeat' split
  all_goals decide
theorem left_v {k : Nat} {o : Option (Nat × Nat)} {l : Nat × Nat} (ho : ∀ c, o = some c → vF c) (h : leftOf k o = some l) : vF l := by
  cases o with
  | none => cases h
  | some c => exact (vF_chk (ho c rfl).1.2 (lkF_ok k).2.1 h).1
theorem kept_v {k : Nat} {o : Option (Nat × Nat)} {l : Nat × Nat} (ho : ∀ c, o = some c → vF c) (h : keptOf k o = some l) : vF l := by
  unfold keptOf at h
  cases hl : leftOf k o with
  | none => rw [hl] at h; cases h
  | some c =>
    rw [hl] at h
    exact (vF_chk (left_v ho hl).1.2 (kpF_ok k).2.1 h).1
theorem on_v {k : Nat} {o : Option (Nat × Nat)} {l : Nat × Nat} (ho : ∀ c, o = some c → vF c) (h : onOf k o = some l) : vF l := by
  unfold onOf at h
  cases hk : keptOf k o with
  | none => rw [hk] at h; cases h
  | some d =>
    rw [hk] at h
    cases hl : leftOf k o with
    | none => rw [hl] at h; cases h
    | some c =>
      rw [hl] at h
      exact (vF_chk (left_v ho hl).1.2 (goF_ok k).2.1 h).1
theorem come_v {f : Fo} (hV : VG f) : ∀ b, b < f.n → ∀ c, f.comeF b = some c → vF c := by
  intro b
  induction b using Nat.strongRecOn with
  | _ b ih =>
    intro hb c hc
    by_cases h0 : b = 0
    · rw [h0, comeF_0] at hc
      injection hc with hc
      rw [← hc]; exact vF_1
    · have ha := (hV.2.1 b hb).2.2.2.2 (by omega)
      rw [comeF_s (by omega) ha] at hc
      cases ho : f.onF (f.ab b) with
      | none => rw [ho] at hc; cases hc
      | some r =>
        rw [ho] at hc
        have hr := on_v (ih _ ha (by omega)) ho
        have hw := wd_ge (f := f) (b := b) (by omega) hb
        have := (hV.2.1 b hb).2.1
        exact (vF_chk hr.1.2 (show 1 ≤ f.wd (f.ab b) by omega) hc).1
theorem kept_v2 {f : Fo} (hV : VG f) {b : Nat} (hb : b < f.n) {c : Nat × Nat} (h : f.keptF b = some c) : vF c := kept_v (come_v hV b hb) h
theorem on_v2 {f : Fo} (hV : VG f) {b : Nat} (hb : b < f.n) {c : Nat × Nat} (h : f.onF b = some c) : vF c := on_v (come_v hV b hb) h
/-- a fraction as the class tells it: whether there is one; above, below -/
def FO (o : Option (Nat × Nat)) (k : Int32) (t u : Int64) : Prop := (∃ r, o = some r ∧ k = 1 ∧ t = lN r.1 ∧ u = lN r.2) ∨ (o = none ∧ k = 0)
theorem FO_chk (r : Nat × Nat) : FO (chk r) (kI (¬ bigF r)) (lN r.1) (lN r.2) := by
  by_cases h : bigF r
  · exact Or.inr ⟨chk_f h, kI_f (fun q => q h)⟩
  · exact Or.inl ⟨r, chk_t h, kI_t h, rfl, rfl⟩
theorem mul7 {r x : Nat × Nat} (hr : vF r) (hx : x.1 ≤ 90) (hy1 : 1 ≤ x.2) (hy : x.2 ≤ 90) {X Y : Int32} (hX : X = nI x.1) (hY : Y = nI x.2) :
    ∃ k t u, f_X4_multiply X Y (lN r.1) (lN r.2) = some (k, t, u) ∧ (k = 0 ∨ k = 1) ∧ FO (chk (mulF r x)) k t u := by
  have h1 := hr.2.1
  have h2 := hr.2.2
  refine ⟨_, _, _, multiply7_e (p := r.1) (q := r.2) (x := x.1) (y := x.2) hr.1.2 (by omega) (by omega) hx hy1 hy hX hY, ?_, FO_chk _⟩
  by_cases h : bigF (mulF (r.1, r.2) (x.1, x.2))
  · exact Or.inl (kI_f (fun q => q h))
  · exact Or.inr (kI_t h)
theorem keep7 {k : Nat} (hk : k ≤ 6) {r : Nat × Nat} (hr : vF r) : ∃ g t u, f_X4_keep (nI k) (lN r.1) (lN r.2) = some (g, t, u) ∧ FO (chk (mulF r (kpF k))) g t u := by
  unfold f_X4_keep
  by_cases h1 : k = 1
  · obtain ⟨g, t, u, hm, hg, hf⟩ := mul7 (x := (2, 5)) hr (by decide) (by decide) (by decide) (X := 2) (Y := 5) rfl rfl
    rw [br_t1 (show nI k = 1 by rw [h1]; rfl), bd_t hm]
    dsimp only
    rw [gd_t hg]
    refine ⟨g, t, u, rfl, ?_⟩
    unfold kpF
    rw [if_neg (by omega), if_pos h1]
    exact hf
  rw [br_f1 (nI_ne 1 1 h1)]
  by_cases h3 : k = 3
  · obtain ⟨g, t, u, hm, hg, hf⟩ := mul7 (x := (0, 1)) hr (by decide) (by decide) (by decide) (X := 0) (Y := 1) rfl rfl
    rw [br_t1 (show nI k = 3 by rw [h3]; rfl), bd_t hm]
    dsimp only
    rw [gd_t hg]
    refine ⟨g, t, u, rfl, ?_⟩
    have e : mulF r (0, 3) = mulF r (0, 1) := mulF_sc (x := 0) (y := 1) (c := 3) (by decide)
    unfold kpF
    rw [if_pos h3, e]
    exact hf
  · obtain ⟨g, t, u, hm, hg, hf⟩ := mul7 (x := (1, 3)) hr (by decide) (by decide) (by decide) (X := 1) (Y := 3) rfl rfl
    rw [br_f1 (nI_ne 3 3 h3), bd_t hm]
    dsimp only
    rw [gd_t hg]
    refine ⟨g, t, u, rfl, ?_⟩
    unfold kpF
    rw [if_neg h3, if_neg h1]
    exact hf
theorem goOn7 {k : Nat} (hk : k ≤ 6) {r : Nat × Nat} (hr : vF r) : ∃ g t u, f_X4_goOn (nI k) (lN r.1) (lN r.2) = some (g, t, u) ∧ FO (chk (mulF r (goF k))) g t u := by
  unfold f_X4_goOn
  by_cases h1 : k = 1
  · obtain ⟨g, t, u, hm, hg, hf⟩ := mul7 (x := (3, 5)) hr (by decide) (by decide) (by decide) (X := 3) (Y := 5) rfl rfl
    rw [br_t1 (show nI k = 1 by rw [h1]; rfl), bd_t hm]
    dsimp only
    rw [gd_t hg]
    refine ⟨g, t, u, rfl, ?_⟩
    unfold goF
    rw [if_neg (by omega), if_pos h1]
    exact hf
  rw [br_f1 (nI_ne 1 1 h1)]
  by_cases h3 : k = 3
  · rw [br_t1 (show nI k = 3 by rw [h3]; rfl)]
    refine ⟨_, _, _, rfl, Or.inl ⟨r, ?_, rfl, rfl, rfl⟩⟩
    unfold goF
    rw [if_pos h3, mulF_one hr.1, chk_t]
    rintro (q | q)
    · have := hr.2.1; omega
    · have := hr.2.2; omega
  · obtain ⟨g, t, u, hm, hg, hf⟩ := mul7 (x := (2, 3)) hr (by decide) (by decide) (by decide) (X := 2) (Y := 3) rfl rfl
    rw [br_f1 (nI_ne 3 3 h3), bd_t hm]
    dsimp only
    rw [gd_t hg]
    refine ⟨g, t, u, rfl, ?_⟩
    unfold goF
    rw [if_neg h3, if_neg h1]
    exact hf
theorem width7 {f : Fo} (hV : VG f) {above edge : Nat → Int32} (hab : ∀ o, o < f.n → above o = abI f.ab o) (hed : ∀ o, o < f.n → edge o = nI (f.ed o)) {b : Nat} (hb : b < f.n) : f_X2_widthUnder (nI b) (nI f.n) above edge = some (nI (f.wd b)) := by
  have hn := hV.1
  unfold f_X2_widthUnder f_X2_widthUnder_L4
  refine lp_go2 _ (fun i (s : Int32 × Int32) => s.1 = nI (f.wdP i b) ∧ s.2 = nI i) f.n (fun o => o = some (nI (f.wd b))) ?_ _ ⟨rfl, rfl⟩ (FU_gt (by omega))
  rintro i ⟨y2, y3⟩ hi ⟨a1, a2⟩ rc
  dsimp only at a1 a2 ⊢
  subst a1 a2
  unfold f_X2_widthUnder_L4_b
  by_cases hx : i = f.n
  · left
    subst hx
    rw [br_t1 (nI_le (Nat.le_refl _) (by omega))]
    rfl
  · right
    have hi' : i < f.n := by omega
    refine ⟨hi', ?_⟩
    have v : vp_in (nI i) 10 := vp_in_nI (by omega) (by decide)
    have hA : abI f.ab i = nI b ↔ 1 ≤ i ∧ f.ab i = b := abI_eq (by omega) (fun q => by have := (hV.2.1 i hi').2.2.2.2 q; omega)
    have e1 : f.wdP (i + 1) b = f.wdP i b + (if 1 ≤ i ∧ f.ab i = b then f.ed i else 0) := rfl
    rw [br_f1 (nI_ge hi' (by omega)), gd_t v, gd_t v, nI_clamp (by omega), hab i hi', hed i hi']
    by_cases hc : 1 ≤ i ∧ f.ab i = b
    · rw [br_t1 (hA.mpr hc), nm_q]
      exact ⟨_, ⟨by dsimp only; rw [e1, if_pos hc, nI_add], nI_1 i⟩, rfl⟩
    · rw [br_f1 (fun q => hc (hA.mp q))]
      exact ⟨_, ⟨by dsimp only; rw [e1, if_neg hc, Nat.add_zero], nI_1 i⟩, rfl⟩
def Sh (f : Fo) (i : Nat) (oT oB : Nat → Int64) (oF : Nat → Int32) : Prop := ∀ a, a < i → FO (f.onF a) (oF a) (oT a) (oB a)
def Sk (f : Fo) (i : Nat) (kT kB : Nat → Int64) (kF : Nat → Int32) : Prop := ∀ a, a < i → FO (f.keptF a) (kF a) (kT a) (kB a)
theorem narB {o : Option (Nat × Nat)} {k : Int32} {t u : Int64} (h : FO o k t u) : vp_nar .boolean k = k := by
  rcases h with ⟨r, -, rfl, -, -⟩ | ⟨-, rfl⟩
  · rfl
  · rfl
theorem Sh_s {f : Fo} {i : Nat} {oT oB : Nat → Int64} {oF : Nat → Int32} (h : Sh f i oT oB oF) {k : Int32} {t u : Int64} (hk : FO (f.onF i) k t u) : Sh f (i + 1) (vp_updL oT i t) (vp_updL oB i u) (upd oF i (vp_nar .boolean k)) := by
  intro a ha
  rw [narB hk]
  by_cases e : a = i
  · rw [e, pk_us, pk_uLs, pk_uLs]; exact hk
  · rw [pk_un e, pk_uLn e, pk_uLn e]; exact h a (by omega)
theorem Sk_s {f : Fo} {i : Nat} {oT oB : Nat → Int64} {oF : Nat → Int32} (h : Sk f i oT oB oF) {k : Int32} {t u : Int64} (hk : FO (f.keptF i) k t u) : Sk f (i + 1) (vp_updL oT i t) (vp_updL oB i u) (upd oF i (vp_nar .boolean k)) := by
  intro a ha
  rw [narB hk]
  by_cases e : a = i
  · rw [e, pk_us, pk_uLs, pk_uLs]; exact hk
  · rw [pk_un e, pk_uLn e, pk_uLn e]; exact h a (by omega)
theorem coming7 {f : Fo} (hV : VG f) {above edge : Nat → Int32} (hab : ∀ o, o < f.n → above o = abI f.ab o) (hed : ∀ o, o < f.n → edge o = nI (f.ed o)) {b : Nat} (hb : b < f.n) {oT oB : Nat → Int64} {oF : Nat → Int32} (hS : Sh f b oT oB oF) (t0 u0 : Int64) :
    ∃ k t u, f_X4_comingTo (nI b) (nI f.n) above t0 u0 oT oB oF edge = some (k, t, u) ∧ FO (f.comeF b) k t u := by
  have hn := hV.1
  unfold f_X4_comingTo f_X4_comingTo_J16
  have v : vp_in (nI b) 10 := vp_in_nI (by omega) (by decide)
  rw [gd_t v, nm_q, nI_clamp (by omega), hab b hb]
  by_cases h0 : b = 0
  · rw [h0, abI_0, br_t1 (by decide)]
    exact ⟨_, _, _, rfl, Or.inl ⟨(1, 1), comeF_0 f, rfl, rfl, rfl⟩⟩
  · obtain ⟨-, he1, he9, -, habl⟩ := hV.2.1 b hb
    have ha := habl (by omega)
    have va : vp_in (nI (f.ab b)) 10 := vp_in_nI (by omega) (by decide)
    rw [abI_s _ h0, br_f1 (nI_pos (by omega)), br_t1 (nI_lt ha (by omega)), gd_t va, gd_t va, gd_t va, nI_clamp (by omega), comeF_s (by omega) ha]
    rcases hS _ ha with ⟨r, e1, e2, e3, e4⟩ | ⟨e1, e2⟩
    · have hr := on_v2 hV (by omega) e1
      have hw := wd_ge (f := f) (b := b) (by omega) hb
      have hw9 : f.wd (f.ab b) ≤ 90 := wd_le hV f.n (f.ab b) (Nat.le_refl _)
      obtain ⟨g, t, u, hm, hg, hf⟩ := mul7 (x := (f.ed b, f.wd (f.ab b))) hr (show f.ed b ≤ 90 by omega) (show 1 ≤ f.wd (f.ab b) by omega) hw9 (X := nI (f.ed b)) (Y := nI (f.wd (f.ab b))) rfl rfl
      rw [e2, br_f1 (by decide), gd_t v, bd_t (width7 hV hab hed (by omega)), hed b hb, e3, e4, bd_t hm, e1]
      dsimp only
      rcases hg with rfl | rfl
      · rw [br_t1 rfl]
        exact ⟨_, _, _, rfl, hf⟩
      · rw [br_f1 (by decide)]
        exact ⟨_, _, _, rfl, hf⟩
    · rw [e2, br_t1 rfl, e1]
      exact ⟨_, _, _, rfl, Or.inr ⟨rfl, rfl⟩⟩
theorem reck7 {f : Fo} (hV : VG f) {above edge kind : Nat → Int32} (hab : ∀ o, o < f.n → above o = abI f.ab o) (hed : ∀ o, o < f.n → edge o = nI (f.ed o)) (hkd : ∀ o, o < f.n → kind o = nI (f.kd o)) (t0 u0 : Int64) (oT oB : Nat → Int64) (oF : Nat → Int32) (kT kB : Nat → Int64) (kF : Nat → Int32) :
    ∃ (t u : Int64) (oT' oB' : Nat → Int64) (oF' : Nat → Int32) (kT' kB' : Nat → Int64) (kF' : Nat → Int32), f_X4_reckon (nI f.n) t0 u0 above oT oB oF edge kind kT kB kF = some (t, u, oT', oB', oF', kT', kB', kF') ∧ Sh f f.n oT' oB' oF' ∧ Sk f f.n kT' kB' kF' := by
  have hn := hV.1
  unfold f_X4_reckon f_X4_reckon_L2
  refine lp_go2 _ (fun i (s : Int32 × Int64 × Int64 × (Nat → Int64) × (Nat → Int64) × (Nat → Int32) × (Nat → Int64) × (Nat → Int64) × (Nat → Int32)) => s.1 = nI i ∧ Sh f i s.2.2.2.1 s.2.2.2.2.1 s.2.2.2.2.2.1 ∧ Sk f i s.2.2.2.2.2.2.1 s.2.2.2.2.2.2.2.1 s.2.2.2.2.2.2.2.2) f.n
    (fun r => ∃ (t u : Int64) (oT' oB' : Nat → Int64) (oF' : Nat → Int32) (kT' kB' : Nat → Int64) (kF' : Nat → Int32), r = some (t, u, oT', oB', oF', kT', kB', kF') ∧ Sh f f.n oT' oB' oF' ∧ Sk f f.n kT' kB' kF') ?_ _ ⟨rfl, fun a ha => absurd ha (by omega), fun a ha => absurd ha (by omega)⟩ (FU_gt (by omega))
  rintro i ⟨y2, t0, u0, oT, oB, oF, kT, kB, kF⟩ hi ⟨a1, hS, hK⟩ rc
  dsimp only at a1 hS hK ⊢
  subst a1
  unfold f_X4_reckon_L2_b
  by_cases hx : i = f.n
  · left
    subst hx
    rw [br_t1 (nI_le (Nat.le_refl _) (by omega))]
    exact ⟨_, _, _, _, _, _, _, _, rfl, hS, hK⟩
  right
  have hi' : i < f.n := by omega
  refine ⟨hi', ?_⟩
  have v : vp_in (nI i) 10 := vp_in_nI (by omega) (by decide)
  obtain ⟨hk6, -, -, -, -⟩ := hV.2.1 i hi'
  obtain ⟨k, t, u, hc, hcf⟩ := coming7 hV hab hed hi' hS t0 u0
  rw [br_f1 (nI_ge hi' (by omega)), bd_t hc]
  dsimp only
  have r142 : ∀ (g : Int32) (t u t' u' : Int64) (kT kB : Nat → Int64) (kF : Nat → Int32), FO (f.onF i) g t u → Sk f (i + 1) kT kB kF → ∃ s9 : Int32 × Int64 × Int64 × (Nat → Int64) × (Nat → Int64) × (Nat → Int32) × (Nat → Int64) × (Nat → Int64) × (Nat → Int32), (s9.1 = nI (i + 1) ∧ Sh f (i + 1) s9.2.2.2.1 s9.2.2.2.2.1 s9.2.2.2.2.2.1 ∧ Sk f (i + 1) s9.2.2.2.2.2.2.1 s9.2.2.2.2.2.2.2.1 s9.2.2.2.2.2.2.2.2) ∧ f_X4_reckon_J142 (nI f.n) above edge kind rc (nI i) g t u oT oB oF kT kB kF = rc s9 := by
    intro g t u t' u' kT kB kF h1 h2
    unfold f_X4_reckon_J142
    rw [gd_t v, gd_t v, gd_t v, nI_clamp (by omega)]
    refine ⟨_, ?_, rfl⟩
    exact ⟨nI_1 i, Sh_s hS h1, h2⟩
  have r80n : ∀ (t u : Int64) (t' u' : Int64), f.keptF i = none → f.onF i = none → ∃ s9 : Int32 × Int64 × Int64 × (Nat → Int64) × (Nat → Int64) × (Nat → Int32) × (Nat → Int64) × (Nat → Int64) × (Nat → Int32), (s9.1 = nI (i + 1) ∧ Sh f (i + 1) s9.2.2.2.1 s9.2.2.2.2.1 s9.2.2.2.2.2.1 ∧ Sk f (i + 1) s9.2.2.2.2.2.2.1 s9.2.2.2.2.2.2.2.1 s9.2.2.2.2.2.2.2.2) ∧ f_X4_reckon_J80 (nI f.n) above edge kind rc (nI i) t' u' 0 t u oT oB oF kT kB kF = rc s9 := by
    intro t u t' u' h1 h2
    unfold f_X4_reckon_J80
    rw [gd_t v, gd_t v, gd_t v, br_t1 rfl, nI_clamp (by omega)]
    exact r142 0 t' u' 0 0 _ _ _ (Or.inr ⟨h2, rfl⟩) (Sk_s hK (Or.inr ⟨h1, rfl⟩))
  have r45n : ∀ (t u : Int64), leftOf (f.kd i) (f.comeF i) = none → ∃ s9 : Int32 × Int64 × Int64 × (Nat → Int64) × (Nat → Int64) × (Nat → Int32) × (Nat → Int64) × (Nat → Int64) × (Nat → Int32), (s9.1 = nI (i + 1) ∧ Sh f (i + 1) s9.2.2.2.1 s9.2.2.2.2.1 s9.2.2.2.2.2.1 ∧ Sk f (i + 1) s9.2.2.2.2.2.2.1 s9.2.2.2.2.2.2.2.1 s9.2.2.2.2.2.2.2.2) ∧ f_X4_reckon_J45 (nI f.n) above edge kind rc (nI i) 0 t u oT oB oF kT kB kF = rc s9 := by
    intro t u h1
    have hkn : f.keptF i = none := by unfold Fo.keptF keptOf; rw [h1]; rfl
    unfold f_X4_reckon_J45
    rw [br_t1 rfl]
    refine r80n t u t u hkn ?_
    unfold Fo.onF onOf
    rw [show keptOf (f.kd i) (f.comeF i) = none from hkn]
    rfl
  rcases hcf with ⟨c, e1, rfl, rfl, rfl⟩ | ⟨e1, rfl⟩
  rotate_left
  · rw [br_t1 rfl]
    exact r45n _ _ (by unfold leftOf; rw [e1]; rfl)
  have hcv := come_v hV i hi' c e1
  have hL : leftOf (f.kd i) (f.comeF i) = chk (mulF c (lkF (f.kd i))) := by unfold leftOf; rw [e1]; rfl
  have hmul : ∃ g t u, f_X4_multiply ((10 : Int32) - nI (if f.kd i = 2 then 1 else if f.kd i = 4 then 2 else 0)) (10 : Int32) (lN c.1) (lN c.2) = some (g, t, u) ∧ (g = 0 ∨ g = 1) ∧ FO (chk (mulF c (lkF (f.kd i)))) g t u := by
    unfold lkF
    by_cases h2 : f.kd i = 2
    · rw [if_pos h2, if_pos h2]
      exact mul7 (x := (9, 10)) hcv (by decide) (by decide) (by decide) rfl rfl
    · rw [if_neg h2, if_neg h2]
      by_cases h4 : f.kd i = 4
      · rw [if_pos h4, if_pos h4]
        have e : mulF c (4, 5) = mulF c (8, 10) := (mulF_sc (x := 4) (y := 5) (c := 2) (by decide)).symm
        rw [e]
        exact mul7 (x := (8, 10)) hcv (by decide) (by decide) (by decide) rfl rfl
      · rw [if_neg h4, if_neg h4]
        have e : mulF c (1, 1) = mulF c (10, 10) := (mulF_sc (x := 1) (y := 1) (c := 10) (by decide)).symm
        rw [e]
        exact mul7 (x := (10, 10)) hcv (by decide) (by decide) (by decide) rfl rfl
  obtain ⟨g, t, u, hm, hg, hf⟩ := hmul
  rw [br_f1 (by decide), gd_t v, nI_clamp (by omega), hkd i hi', bd_t (tenths_e hk6), bd_t hm]
  dsimp only
  rw [← hL] at hf
  rcases hf with ⟨l, e2, rfl, rfl, rfl⟩ | ⟨e2, rfl⟩
  rotate_left
  · rw [br_t1 rfl]
    exact r45n _ _ e2
  have hlv := left_v (come_v hV i hi') e2
  rw [br_f1 (by decide)]
  unfold f_X4_reckon_J45
  obtain ⟨g3, t3, u3, hm3, hf3⟩ := keep7 hk6 hlv
  have hKe : f.keptF i = chk (mulF l (kpF (f.kd i))) := by unfold Fo.keptF keptOf; rw [e2]; rfl
  rw [br_f1 (by decide), gd_t v, nI_clamp (by omega), hkd i hi', bd_t hm3]
  dsimp only
  rw [← hKe] at hf3
  rcases hf3 with ⟨q, e3, rfl, rfl, rfl⟩ | ⟨e3, rfl⟩
  rotate_left
  · rw [br_t1 rfl]
    refine r80n _ _ _ _ e3 ?_
    unfold Fo.onF onOf
    rw [show keptOf (f.kd i) (f.comeF i) = none from e3]
    rfl
  rw [br_f1 (by decide)]
  unfold f_X4_reckon_J80
  obtain ⟨g4, t4, u4, hm4, hf4⟩ := goOn7 hk6 hlv
  have hOe : f.onF i = chk (mulF l (goF (f.kd i))) := by
    unfold Fo.onF onOf
    rw [show keptOf (f.kd i) (f.comeF i) = some q from e3, e2]
    rfl
  rw [← hOe] at hf4
  have hK1 := Sk_s hK (k := 1) (t := lN q.1) (u := lN q.2) (Or.inl ⟨q, e3, rfl, rfl, rfl⟩)
  rw [gd_t v, gd_t v, gd_t v, gd_t v, br_f1 (by decide), nI_clamp (by omega), hkd i hi', bd_t hm4]
  dsimp only
  rcases hf4 with ⟨w, e4, rfl, rfl, rfl⟩ | ⟨e4, rfl⟩
  · rw [br_f1 (by decide)]
    exact r142 1 _ _ 0 0 _ _ _ (Or.inl ⟨w, e4, rfl, rfl, rfl⟩) hK1
  · rw [br_t1 rfl]
    exact r142 0 _ _ 0 0 _ _ _ (Or.inr ⟨e4, rfl⟩) hK1
