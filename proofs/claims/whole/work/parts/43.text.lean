/-! ===== case text ===== -/
def Fo.addE (f : Fo) (k a e : Nat) : Fo := (f.addB k a).setEd f.n e
theorem upd_upd (h : Nat → Int32) (k : Nat) (x y : Int32) : upd (upd h k x) k y = upd h k y := by
  funext j
  by_cases e : j = k
  · rw [e, pk_us, pk_us]
  · rw [pk_un e, pk_un e, pk_un e]
theorem VF_addE {f : Fo} (h : VF f) (hn : f.n < 10) {k a e : Nat} (hk : k ≤ 6) (ha : f.n ≠ 0 → a < f.n) (he1 : 1 ≤ e) (he : e ≤ 9) : VF (f.addE k a e) := VF_Ed (VF_addB h hn hk ha) f.n he1 he
theorem CF_addE {f : Fo} {kind above edge pool store spot : Nat → Int32} {basins spring hour z : Int32} (h : CF f kind above edge pool store spot basins spring hour z) (k a e : Nat) {x : Int32} (hx : x = abI (fset f.ab f.n a) f.n) :
    CF (f.addE k a e) (upd kind f.n (nI k)) (upd above f.n x) (upd edge f.n (nI e)) (upd pool f.n 0) (upd store f.n 0) spot (nI f.n + 1) spring hour z := by
  have h2 := CF_Ed (CF_addB h k a hx) f.n e
  rw [upd_upd] at h2
  exact h2
theorem MF_addE {f : Fo} {d : Nat → Int32} (h : MF f d) (hn : f.n < 10) (k a e : Nat) {x : Int32} (hx : x = abI (fset f.ab f.n a) f.n) :
    MF (f.addE k a e) (upd (upd (upd (upd (upd (upd d 0 (nI f.n + 1)) (4 + 5 * f.n + 0) (nI k)) (4 + 5 * f.n + 1) x) (4 + 5 * f.n + 2) (nI e)) (4 + 5 * f.n + 3) 0) (4 + 5 * f.n + 4) 0) := by
  have h2 := MF_Ed (MF_addB h hn k a hx) (show (f.addB k a).n ≤ 10 from hn) (b := f.n) (show f.n < f.n + 1 by omega) e
  refine MF_cong (f := f.addE k a e) (show f.n + 1 ≤ 10 from hn) h2 (fun j _ => ?_)
  by_cases e2 : j = 4 + 5 * f.n + 2
  · rw [e2, pk_us, pk_un (by omega), pk_un (by omega), pk_us]
  · rw [pk_un (k := 4 + 5 * f.n + 2) (j := j) (f := upd (upd (upd (upd (upd (upd d 0 (nI f.n + 1)) (4 + 5 * f.n + 0) (nI k)) (4 + 5 * f.n + 1) x) (4 + 5 * f.n + 2) 1) (4 + 5 * f.n + 3) 0) (4 + 5 * f.n + 4) 0) e2]
    by_cases e4 : j = 4 + 5 * f.n + 4
    · rw [e4, pk_us, pk_us]
    · rw [pk_un e4, pk_un e4]
      by_cases e3 : j = 4 + 5 * f.n + 3
      · rw [e3, pk_us, pk_us]
      · rw [pk_un e3, pk_un e3, pk_un e2, pk_un e2]
section TXT
variable {g : Nat → Nat} {n : Nat} {bytes tape tsp : Nat → Int32} {thr tz : Int32}
theorem step_two (hB : TB g n bytes tape) {p t s e at' va : Nat} (hS : St g n p t s e at' va) (h4 : t ≠ 4) : ∃ t' s' e' at2 va', St g n e t' s' e' at2 va' ∧ f_X6_advance (nI n) (nI t) (nI s) (nI e) bytes = some (nI t', nI s', nI e') ∧ f_X8_next (nI n) (nI at') (nI t) (nI s) (lN va) tape = some (nI at2, nI t', nI s', lN va') := by
  obtain ⟨hT, hat, -, -, -, -⟩ := hS
  obtain ⟨t', s', e', hT2⟩ := tk_ex (g := g) (n := n) hT.2.2.2.2.2.2.1
  obtain ⟨at2, va', hS2, hN⟩ := next8 hB hT2 (nI t) (nI s) (lN va)
  rw [← hat h4] at hN
  exact ⟨t', s', e', at2, va', hS2, adv7 hB hT2 _ _, hN⟩
theorem kI_01 (p : Prop) : kI p = 0 ∨ kI p = 1 := by
  by_cases h : p
  · exact Or.inr (kI_t h)
  · exact Or.inl (kI_f h)
/-- how an item ends, on both sides -/
def IE (g : Nat → Nat) (n p : Nat) (tsp : Nat → Int32) (thr tz : Int32) (fl tok st en ba sg : Int32) (kd ab ed po sr : Nat → Int32) (at8 so8 fr8 : Int32) (va8 : Int64) (fa8 : Int32) (d8 : Nat → Int32) : Prop :=
  (fl = 0 ∧ ∃ q, q ≤ n ∧ st = nI q ∧ fa8 = nI q) ∨
  (fl = 1 ∧ fa8 = -1 ∧ ∃ h p' t s e at' va, p < p' ∧ VF h ∧ CF h kd ab ed po sr tsp ba sg thr tz ∧ MF h d8 ∧ St g n p' t s e at' va ∧ tok = nI t ∧ st = nI s ∧ en = nI e ∧ at8 = nI at' ∧ so8 = nI t ∧ fr8 = nI s ∧ va8 = lN va)
theorem add_two {f : Fo} (hV : VF f) (h10 : f.n < 10) {kind above edge pool store d : Nat → Int32} {spring : Int32} (hC : CF f kind above edge pool store tsp (nI f.n) spring thr tz) (hM : MF f d) {k a e : Nat} (hk : k ≤ 6) (ha : f.n ≠ 0 → a < f.n) {x : Int32} (hx : x = abI (fset f.ab f.n a) f.n) (he1 : 1 ≤ e) (he : e ≤ 9) {E : Int32} (hE : E = nI e) :
    ∃ D, f_X2_add (nI k) x E (nI f.n) kind above edge pool store = some (nI f.n, nI f.n + 1, upd kind f.n (nI k), upd above f.n x, upd edge f.n (nI e), upd pool f.n 0, upd store f.n 0) ∧ f_X8_comes (nI k) x E d = some (nI f.n, D) ∧ VF (f.addE k a e) ∧ CF (f.addE k a e) (upd kind f.n (nI k)) (upd above f.n x) (upd edge f.n (nI e)) (upd pool f.n 0) (upd store f.n 0) tsp (nI f.n + 1) spring thr tz ∧ MF (f.addE k a e) D := by
  subst hE
  have hv : vp_in (nI f.n) 10 := vp_in_nI h10 (by decide)
  have h9 : nI f.n < (10 : Int32) := nI_lt (a := f.n) (b := 10) h10 (by decide)
  refine ⟨_, ?_, ?_, VF_addE hV h10 hk ha he1 he, CF_addE hC k a e hx, MF_addE hM h10 k a e hx⟩
  · unfold f_X2_add
    rw [br_f1 (nI_pos (by omega)), br_t1 h9, gd_t hv, gd_t hv, gd_t hv, gd_t hv, gd_t hv, nI_clamp (by omega)]
  · unfold f_X8_comes
    rw [show d (0 : Int32).toNatClampNeg = nI f.n from hM.1, nm_q, bd_t (show f_X8_sets (nI f.n) (0 : Int32) _ _ = _ from sets_e (b := f.n) (c := 0) (by omega) _ _), bd_t (show f_X8_sets (nI f.n) (1 : Int32) _ _ = _ from sets_e (b := f.n) (c := 1) (by omega) _ _), bd_t (show f_X8_sets (nI f.n) (2 : Int32) _ _ = _ from sets_e (b := f.n) (c := 2) (by omega) _ _), bd_t (show f_X8_sets (nI f.n) (3 : Int32) _ _ = _ from sets_e (b := f.n) (c := 3) (by omega) _ _), bd_t (show f_X8_sets (nI f.n) (4 : Int32) _ _ = _ from sets_e (b := f.n) (c := 4) (by omega) _ _)]
    rfl
/-- from the word edge on -/
theorem edge_two (hB : TB g n bytes tape) {f : Fo} (hV : VF f) (h10 : f.n < 10) {kind above edge pool store d : Nat → Int32} {spring : Int32} (hC : CF f kind above edge pool store tsp (nI f.n) spring thr tz) (hM : MF f d) {k a : Nat} (hk : k ≤ 6) (ha : f.n ≠ 0 → a < f.n) {x : Int32} (hx : x = abI (fset f.ab f.n a) f.n)
    {p t s e at' va : Nat} (hS : St g n p t s e at' va) {p0 : Nat} (hp0 : p0 < p) (num : Int32) :
    ∃ u v, f_X6_readBasin_J45 (nI k) (nI n) bytes x (nI f.n) (nI t) (nI s) (nI e) num kind above edge pool store = some u ∧ f_X8_basinHere_J72 (nI k) (nI n) tape x (nI at') (nI t) (nI s) (lN va) (-1) d = some v ∧ (u.1 = 0 ∨ u.1 = 1) ∧
      IE g n p0 tsp thr tz u.1 u.2.2.1 u.2.2.2.1 u.2.2.2.2.1 u.2.1 spring u.2.2.2.2.2.2.1 u.2.2.2.2.2.2.2.1 u.2.2.2.2.2.2.2.2.1 u.2.2.2.2.2.2.2.2.2.1 u.2.2.2.2.2.2.2.2.2.2 v.1 v.2.1 v.2.2.1 v.2.2.2.1 v.2.2.2.2.1 v.2.2.2.2.2 := by
  have hT := hS.1
  have hpe : p ≤ e := by have := hT.1; have := hT.2.2.2.2.2.2.2.1; omega
  unfold f_X6_readBasin_J45 f_X8_basinHere_J72
  rw [bd_t (show f_X6_isWord 2 (nI n) (nI t) (nI s) (nI e) bytes = _ from word7 hB hT.2.2.2.2.1 hT.2.2.2.2.2.2.2.1 hT.2.2.2.2.2.2.1 (k := 2) (by decide)), bd_t (word8 hS (k := 2) (by decide) (X := 101525) rfl), br_kI, br_kI]
  by_cases hw : isW g 2 t s e
  · rw [br_t1 hw, br_t1 hw]
    have h1 := hw.1
    obtain ⟨t', s', e', at2, va', hS2, hA, hN⟩ := step_two hB hS (by omega)
    rw [bd_t hA, bd_t hN]
    dsimp only
    rcases num_two hB hS2 (lo := 1) (hi := 9) (by decide) (by decide) (LO := 1) (HI := 9) rfl rfl num with ⟨h2, hlt2, l1, l2, t3, s3, e3, at3, va3, hS3, hR, hN3⟩ | ⟨m, hR, hN3⟩
    · rw [bd_t hR, bd_t hN3]
      dsimp only
      obtain ⟨D, hD1, hD2, hDV, hDC, hDM⟩ := add_two hV h10 hC hM hk ha hx l1 l2 rfl
      unfold f_X6_readBasin_J79 f_X8_basinHere_J96
      rw [br_f1 (show ¬ (1 : Int32) = 0 by decide), bd_t hD1, br_f1 (show ¬ (0 : Int32) ≤ -1 by decide), bd_t hD2]
      refine ⟨_, _, rfl, rfl, Or.inr rfl, Or.inr ⟨rfl, rfl, f.addE k a _, e', t3, s3, e3, at3, va3, ?_, hDV, hDC, hDM, hS3, rfl, rfl, rfl, rfl, rfl, rfl, rfl⟩⟩
      have := hS2.1.1
      have := hS2.1.2.2.2.2.2.2.2.1
      omega
    · rw [bd_t hR, bd_t hN3]
      dsimp only
      unfold f_X8_basinHere_J96
      rw [br_t1 rfl, br_t1 (nI_pos' (by have := hB.1; have := hS2.1.2.1; omega))]
      exact ⟨_, _, rfl, rfl, Or.inl rfl, Or.inl ⟨rfl, s', hS2.1.2.1, rfl, rfl⟩⟩
  · rw [br_f1 hw, br_f1 hw]
    obtain ⟨D, hD1, hD2, hDV, hDC, hDM⟩ := add_two hV h10 hC hM hk ha hx (e := 1) (by decide) (by decide) (E := 1) rfl
    unfold f_X6_readBasin_J79 f_X8_basinHere_J96
    rw [bd_t hD1, br_f1 (show ¬ (0 : Int32) ≤ -1 by decide), bd_t hD2]
    exact ⟨_, _, rfl, rfl, Or.inr rfl, Or.inr ⟨rfl, rfl, f.addE k a 1, p, t, s, e, at', va, hp0, hDV, hDC, hDM, hS, rfl, rfl, rfl, rfl, rfl, rfl, rfl⟩⟩
theorem item_two (hB : TB g n bytes tape) {f : Fo} (hV : VF f) {kind above edge pool store d : Nat → Int32} {spring : Int32} (hC : CF f kind above edge pool store tsp (nI f.n) spring thr tz) (hM : MF f d)
    {p t s e at' va : Nat} (hS : St g n p t s e at' va) (num : Int32) :
    ∃ u v, f_X6_readItem (nI n) (nI t) (nI s) (nI e) num bytes (nI f.n) spring kind above edge pool store = some u ∧ f_X8_item (nI n) (nI at') (nI t) (nI s) (lN va) (-1) tape d = some v ∧
      IE g n p tsp thr tz u.1 u.2.1 u.2.2.1 u.2.2.2.1 u.2.2.2.2.2.1 u.2.2.2.2.2.2.1 u.2.2.2.2.2.2.2.1 u.2.2.2.2.2.2.2.2.1 u.2.2.2.2.2.2.2.2.2.1 u.2.2.2.2.2.2.2.2.2.2.1 u.2.2.2.2.2.2.2.2.2.2.2 v.1 v.2.1 v.2.2.1 v.2.2.2.1 v.2.2.2.2.1 v.2.2.2.2.2 := by
  have hn := hB.1
  have hfn : f.n ≤ 10 := hV.1
  have hT := hS.1
  have hsn : s ≤ n := hT.2.1
  have hps : p ≤ s := hT.1
  obtain ⟨x, hx7, hx8, hx⟩ := kind_two hB hS
  unfold f_X6_readItem f_X8_item
  rw [bd_t (show f_X6_isWord 0 (nI n) (nI t) (nI s) (nI e) bytes = _ from word7 hB hT.2.2.2.2.1 hT.2.2.2.2.2.2.2.1 hT.2.2.2.2.2.2.1 (k := 0) (by decide)), br_kI, bd_t hx8]
  by_cases hsp : isW g 0 t s e
  · have h1 := hsp.1
    obtain ⟨c1, -, -⟩ := hT.2.2.2.2.2.2.2.2.2.1 (Or.inl h1)
    have hxm : x = -1 := by
      rcases hx with ⟨c, hc, -, hw⟩ | ⟨h, -⟩
      · exact absurd hw (spring_no hsp c hc)
      · exact h
    rw [br_t1 hsp, hxm, br_t1 (show (-1 : Int32) < 0 by decide), bd_t (word8 hS (k := 0) (by decide) (X := 281493529) rfl), br_kI, br_t1 hsp]
    obtain ⟨t', s', e', at2, va', hS2, hA, hN⟩ := step_two hB hS (by omega)
    unfold f_X6_readSpring
    rw [bd_t hA, bd_t hN]
    dsimp only
    rcases num_two hB hS2 (lo := 0) (hi := 99999) (by decide) (by decide) (LO := 0) (HI := 99999) rfl rfl num with ⟨h2, hlt2, l1, l2, t3, s3, e3, at3, va3, hS3, hR, hN3⟩ | ⟨m, hR, hN3⟩
    · rw [bd_t hR, bd_t hN3]
      dsimp only
      rw [br_f1 (show ¬ (1 : Int32) = 0 by decide), br_f1 (show ¬ (0 : Int32) ≤ -1 by decide), bd_t rfl, gd_t (Or.inr rfl)]
      refine ⟨_, _, rfl, rfl, Or.inr ⟨rfl, rfl, f.setSg (nv g s' (e' - s')), e', t3, s3, e3, at3, va3, ?_, VF_Sg hV l2, CF_Sg hC _, MF_Sg hM _, hS3, rfl, rfl, rfl, rfl, rfl, rfl, rfl⟩⟩
      have := hS2.1.1
      have := hS2.1.2.2.2.2.2.2.2.1
      omega
    · rw [bd_t hR, bd_t hN3]
      dsimp only
      rw [br_t1 rfl, br_t1 (nI_pos' (by have := hS2.1.2.1; omega)), bd_t rfl, gd_t (Or.inl rfl)]
      exact ⟨_, _, rfl, rfl, Or.inl ⟨rfl, s', hS2.1.2.1, rfl, rfl⟩⟩
  rw [br_f1 hsp, bd_t hx7]
  rcases hx with ⟨c, hc, rfl, hw⟩ | ⟨rfl, hno⟩
  rotate_left
  · rw [br_t1 rfl, br_t1 (show (-1 : Int32) < 0 by decide), bd_t (word8 hS (k := 0) (by decide) (X := 281493529) rfl), br_kI, br_f1 hsp, bd_t (wrong8 s)]
    exact ⟨_, _, rfl, rfl, Or.inl ⟨rfl, s, hsn, rfl, rfl⟩⟩
  have h1 := hw.1
  obtain ⟨c1, -, -⟩ := hT.2.2.2.2.2.2.2.2.2.1 (Or.inl h1)
  have hcm : ¬ nI c = -1 := by
    intro z
    have := congrArg Int32.toInt z
    rw [nI_toInt (by omega), show (-1 : Int32).toInt = -1 from rfl] at this
    omega
  rw [br_f1 hcm, br_f1 (nI_pos (by omega))]
  unfold f_X8_basinHere
  rw [show d (0 : Int32).toNatClampNeg = nI f.n from hM.1]
  by_cases h10 : f.n = 10
  · rw [br_f1 (show ¬ nI f.n < (10 : Int32) by rw [h10]; decide), br_t1 (show nI f.n = (10 : Int32) by rw [h10]; rfl), bd_t (wrong8 s), bd_t rfl]
    exact ⟨_, _, rfl, rfl, Or.inl ⟨rfl, s, hsn, rfl, rfl⟩⟩
  have hlt10 : f.n < 10 := by omega
  obtain ⟨t', s', e', at2, va', hS2, hA, hN⟩ := step_two hB hS (by omega)
  have hS2n : s' ≤ n := hS2.1.2.1
  rw [br_t1 (show nI f.n < (10 : Int32) from nI_lt (a := f.n) (b := 10) hlt10 (by decide)), bd_t hA, br_f1 (show ¬ nI f.n = (10 : Int32) from fun h => h10 ((nI_eq (b := 10) (by omega) (by decide)).mp h)), bd_t hN]
  dsimp only
  unfold f_X6_readBasin
  by_cases h0 : f.n = 0
  · have hz : nI f.n ≤ 0 := by rw [h0]; decide
    obtain ⟨u, v, hu, hv, hu1, hIE⟩ := edge_two hB hV hlt10 hC hM hc (a := 0) (fun h => absurd h0 h) (x := -1) (by unfold abI; rw [if_pos h0]) hS2 (p0 := p) (by omega) num
    rw [br_t1 hz, br_t1 hz, bd_t hu, bd_t hv, gd_t hu1]
    exact ⟨_, _, rfl, rfl, hIE⟩
  have hz : ¬ nI f.n ≤ 0 := nI_nle (by omega) (by omega)
  have hT2 := hS2.1
  rw [br_f1 hz, br_f1 hz, bd_t (show f_X6_isWord 1 (nI n) (nI t') (nI s') (nI e') bytes = _ from word7 hB hT2.2.2.2.2.1 hT2.2.2.2.2.2.2.2.1 hT2.2.2.2.2.2.2.1 (k := 1) (by decide)), bd_t (word8 hS2 (k := 1) (by decide) (X := 1170473) rfl), br_kI, br_kI]
  by_cases hbw : isW g 1 t' s' e'
  rotate_left
  · rw [br_f1 hbw, br_f1 hbw, bd_t rfl, bd_t (wrong8 s'), bd_t rfl, gd_t (Or.inl rfl)]
    exact ⟨_, _, rfl, rfl, Or.inl ⟨rfl, s', hS2n, rfl, rfl⟩⟩
  have h1' := hbw.1
  obtain ⟨t3, s3, e3, at3, va3, hS3, hA3, hN3⟩ := step_two hB hS2 (by omega)
  have hS3n : s3 ≤ n := hS3.1.2.1
  have hes : e ≤ s' := hT2.1
  have he2 : s' ≤ e' := hT2.2.2.2.2.2.2.2.1
  have e1 : nI f.n - (1 : Int32) = nI (f.n - 1) := pk_sub (b := 1) (by omega)
  rw [br_t1 hbw, br_t1 hbw, bd_t hA3, bd_t hN3, e1]
  dsimp only
  rcases num_two hB hS3 (lo := 0) (hi := f.n - 1) (by omega) (by decide) (LO := 0) (HI := nI (f.n - 1)) rfl rfl num with ⟨h2, hlt2, l1, l2, t4, s4, e4, at4, va4, hS4, hR, hN4⟩ | ⟨m, hR, hN4⟩
  · have hmono : e' ≤ e3 := by
      have := hS3.1.1
      have := hS3.1.2.2.2.2.2.2.2.1
      omega
    rw [bd_t hR, bd_t hN4]
    dsimp only
    obtain ⟨u, v, hu, hv, hu1, hIE⟩ := edge_two hB hV hlt10 hC hM hc (a := nv g s3 (e3 - s3)) (fun _ => by omega) (x := nI (nv g s3 (e3 - s3))) (by unfold abI; rw [if_neg h0, fset_s]) hS4 (p0 := p) (by omega) (nI (nv g s3 (e3 - s3)))
    rw [br_f1 (show ¬ (1 : Int32) = 0 by decide), br_t1 (show (-1 : Int32) < 0 by decide), bd_t hu, bd_t hv, gd_t hu1]
    exact ⟨_, _, rfl, rfl, hIE⟩
  · rw [bd_t hR, bd_t hN4]
    dsimp only
    rw [br_t1 rfl, br_f1 (nI_pos (by omega)), bd_t rfl, bd_t rfl, gd_t (Or.inl rfl)]
    exact ⟨_, _, rfl, rfl, Or.inl ⟨rfl, s3, hS3n, rfl, rfl⟩⟩
theorem read_two (hB : TB g n bytes tape) {f : Fo} (hV : VF f) {kind above edge pool store d : Nat → Int32} {spring : Int32} (hC : CF f kind above edge pool store tsp (nI f.n) spring thr tz) (hM : MF f d) (tok st num : Int32) (so8 fr8 fa8 : Int32) (va8 : Int64) (at8 : Int32) (en : Int32) :
    ∃ u v, f_X6_read (nI n) tok st en num bytes (nI f.n) spring kind above edge pool store = some u ∧ f_X8_items (nI n) at8 so8 fr8 va8 fa8 tape d = some v ∧
      ((∃ s, s ≤ n ∧ u.1 = -1 - nI s ∧ v.2.2.2.2.2.1 = nI s) ∨ (∃ k h, k ≤ 1000 ∧ u.1 = nI k ∧ v.1 = nI k ∧ v.2.2.2.2.2.1 = -1 ∧ VF h ∧ CF h u.2.2.2.2.2.2.2.1 u.2.2.2.2.2.2.2.2.1 u.2.2.2.2.2.2.2.2.2.1 u.2.2.2.2.2.2.2.2.2.2.1 u.2.2.2.2.2.2.2.2.2.2.2 tsp u.2.2.2.2.2.1 u.2.2.2.2.2.2.1 thr tz ∧ MF h v.2.2.2.2.2.2)) := by
  have hn := hB.1
  obtain ⟨t, s, e, hT⟩ := tk_ex (g := g) (n := n) (p := 0) (by omega)
  obtain ⟨at', va, hS, hN⟩ := next8 hB hT so8 fr8 va8
  obtain ⟨u, ⟨v1, v2, v3, v4, v5, v6⟩, hu, hv, hIE⟩ := item_two hB hV hC hM hS num
  dsimp only at hIE
  unfold f_X6_read f_X8_items
  rw [bd_t (show f_X6_advance (nI n) tok st (0 : Int32) bytes = _ from adv7 hB hT tok st), bd_t (show f_X8_next (nI n) (0 : Int32) so8 fr8 va8 tape = _ from hN)]
  dsimp only
  rw [bd_t hv]
  dsimp only
  unfold f_X6_read_L11 f_X8_items_L20
  refine lp_two4 61 (fun i q r => q.1 = nI (1 + i) ∧ r.1 = nI (1 + i) ∧ ∃ p u, 2 * i ≤ p ∧ p ≤ n ∧ f_X6_readItem (nI n) q.2.1 q.2.2.1 q.2.2.2.1 q.2.2.2.2.1 bytes q.2.2.2.2.2.1 q.2.2.2.2.2.2.1 q.2.2.2.2.2.2.2.1 q.2.2.2.2.2.2.2.2.1 q.2.2.2.2.2.2.2.2.2.1 q.2.2.2.2.2.2.2.2.2.2.1 q.2.2.2.2.2.2.2.2.2.2.2 = some u ∧ IE g n p tsp thr tz u.1 u.2.1 u.2.2.1 u.2.2.2.1 u.2.2.2.2.2.1 u.2.2.2.2.2.2.1 u.2.2.2.2.2.2.2.1 u.2.2.2.2.2.2.2.2.1 u.2.2.2.2.2.2.2.2.2.1 u.2.2.2.2.2.2.2.2.2.2.1 u.2.2.2.2.2.2.2.2.2.2.2 r.2.1 r.2.2.1 r.2.2.2.1 r.2.2.2.2.1 r.2.2.2.2.2.1 r.2.2.2.2.2.2) ⟨rfl, rfl, 0, u, by omega, by omega, hu, hIE⟩ (FU_gt (by decide)) ?_
  rintro i ⟨y2, tok, st, en, num, ba, sg, kd, ab, ed, po, sr⟩ ⟨z1, at8, so8, fr8, va8, fa8, d8⟩ hi ⟨a1, a2, p, ⟨u1, u2, u3, u4, u5, u6, u7, u8, u9, u10, u11, u12⟩, hp1, hp2, hrd, hIE⟩ rc rd
  dsimp only at a1 a2 hrd hIE ⊢
  subst a1 a2
  unfold f_X6_read_L11_b f_X8_items_L20_b f_X8_items_J49
  rw [br_f1 (show ¬ (120 : Int32) < nI (1 + i) from nI_nlt (a := 120) (by omega) (by decide)), bd_t hrd]
  dsimp only
  rcases hIE with ⟨rfl, q, hq, rfl, rfl⟩ | ⟨rfl, rfl, h, p', t, s, e, at', va, hpp, hVh, hCh, hMh, hSh, rfl, rfl, rfl, rfl, rfl, rfl, rfl⟩
  · left
    have h0 : (0 : Int32) ≤ nI q := nI_pos' (by omega)
    rw [br_t1 rfl, br_t1 h0, br_t1 h0]
    exact ⟨_, _, rfl, rfl, Or.inl ⟨q, hq, rfl, rfl⟩⟩
  have hm : ¬ (0 : Int32) ≤ -1 := by decide
  have hTh := hSh.1
  have ht4 : t ≤ 4 := hTh.2.2.2.2.1
  rw [br_f1 (show ¬ (1 : Int32) = 0 by decide), br_f1 hm]
  by_cases h0 : t = 0
  · left
    have e0 : nI t = 0 := by rw [h0]; rfl
    rw [br_t1 e0, br_f1 (nI_ne 3 3 (by omega)), br_f1 hm, br_t1 e0]
    exact ⟨_, _, rfl, rfl, Or.inr ⟨1 + i, h, by omega, rfl, rfl, rfl, hVh, hCh, hMh⟩⟩
  rw [br_f1 (nI_ne 0 0 h0)]
  by_cases h3 : t = 3
  · right
    have e3 : nI t = 3 := by rw [h3]; rfl
    have hes : e = s + 1 := hTh.2.2.2.2.2.2.2.2.2.2 (Or.inl h3)
    have hps : p' ≤ s := hTh.1
    have hen : e ≤ n := hTh.2.2.2.2.2.2.1
    obtain ⟨t', s', e', at2, va', hS2, hA, hN⟩ := step_two hB hSh (by omega)
    have hb : u6 = nI h.n := hCh.1
    rw [hb] at hCh
    obtain ⟨u, ⟨v1, v2, v3, v4, v5, v6⟩, hu, hv, hIE⟩ := item_two hB hVh hCh hMh hS2 u5
    rw [← hb] at hu
    dsimp only at hIE
    rw [br_t1 e3, br_t1 e3, bd_t hA, bd_t hN]
    dsimp only
    rw [bd_t hv]
    refine ⟨by omega, _, _, ?_, rfl, rfl⟩
    exact ⟨nI_1 _, nI_1 _, e, u, by omega, hen, hu, hIE⟩
  · left
    rw [br_f1 (nI_ne 3 3 h3), br_f1 (nI_ne 3 3 h3), br_f1 hm, br_f1 (nI_ne 0 0 h0), bd_t (wrong8 s)]
    exact ⟨_, _, rfl, rfl, Or.inl ⟨s, hTh.2.1, rfl, rfl⟩⟩
end TXT
theorem m1_neg {s : Nat} (hs : s < 2 ^ 29) : (-1 : Int32) - nI s < 0 := by
  have e : (-1 : Int32) - nI s = nI 0 - nI (s + 1) := by
    rw [← nI_1]
    show (-1 : Int32) - nI s = 0 - (nI s + 1)
    grind
  rw [e]
  exact pk_sneg (a := 0) (b := s + 1) (by omega) (by omega)
theorem L_text (cT_present_kind : Nat → Int32) (cT_present_above : Nat → Int32) (cT_present_edge : Nat → Int32) (cT_present_pool : Nat → Int32) (cT_present_store : Nat → Int32) (cT_present_spot : Nat → Int32) (vT_present_basins : Int32) (vT_present_spring : Int32) (vT_present_hour : Int32) (vT_present_z : Int32) (vT_pictured : Int32) (cT_picture_kind : Nat → Int32) (cT_picture_above : Nat → Int32) (cT_picture_edge : Nat → Int32) (cT_picture_pool : Nat → Int32) (cT_picture_store : Nat → Int32) (cT_picture_spot : Nat → Int32) (vT_picture_basins : Int32) (vT_picture_spring : Int32) (vT_picture_hour : Int32) (vT_picture_z : Int32) (cT_told : Nat → Int32) (cT_tape_bytes : Nat → Int32) (vT_tape_size : Int32) (vT_sheets_bits : Nat → Int32) (vT_sheets_size : Nat → Int32) (cT_sheets_numbers : Nat → Nat → Int32) (cM_d : Nat → Int32) (vM_isKept : Int32) (cM_kept : Nat → Int32) (cM_found : Nat → Int32) (cM_tape : Nat → Int32) (vM_taped : Int32) (cM_bitsOf : Nat → Int32) (cM_sizeOf : Nat → Int32) (cM_number : Nat → Int32) (vT_trial_basins : Int32) (vT_trial_spring : Int32) (vT_trial_hour : Int32) (vT_trial_z : Int32) (cT_trial_kind : Nat → Int32) (cT_trial_above : Nat → Int32) (cT_trial_edge : Nat → Int32) (cT_trial_pool : Nat → Int32) (cT_trial_store : Nat → Int32) (cT_trial_spot : Nat → Int32) (vT_tape_token : Int32) (vT_tape_start : Int32) (vT_tape_end : Int32) (vT_tape_number : Int32) (vM_at : Int32) (vM_sort : Int32) (vM_from : Int32) (vM_value : Int64) (vM_fault : Int32) (cM_e : Nat → Int32) (hI : Inv cT_present_kind cT_present_above cT_present_edge cT_present_pool cT_present_store cT_present_spot vT_present_basins vT_present_spring vT_present_hour vT_present_z vT_pictured cT_picture_kind cT_picture_above cT_picture_edge cT_picture_pool cT_picture_store cT_picture_spot vT_picture_basins vT_picture_spring vT_picture_hour vT_picture_z cT_told cT_tape_bytes vT_tape_size vT_sheets_bits vT_sheets_size cT_sheets_numbers cM_d vM_isKept cM_kept cM_found cM_tape vM_taped cM_bitsOf cM_sizeOf cM_number) : ∃ (u : Int32 × Int32 × Int32 × Int32 × Int32 × Int32 × Int32 × Int32 × Int32 × (Nat → Int32) × (Nat → Int32) × (Nat → Int32) × (Nat → Int32) × (Nat → Int32) × (Nat → Int32) × (Nat → Int32) × (Nat → Int32) × (Nat → Int32) × (Nat → Int32) × (Nat → Int32) × (Nat → Int32) × Int32 × Int32 × Int32 × Int32 × Int32) (v : Int32 × Int32 × Int32 × Int32 × Int32 × Int64 × Int32 × (Nat → Int32) × (Nat → Int32)), f_X7_text vT_trial_basins vT_trial_spring vT_trial_hour vT_trial_z vT_present_basins vT_present_spring vT_present_hour vT_present_z cT_present_kind cT_trial_kind cT_present_above cT_trial_above cT_present_edge cT_trial_edge cT_present_pool cT_trial_pool cT_present_store cT_trial_store cT_present_spot cT_trial_spot vT_tape_size vT_tape_token vT_tape_start vT_tape_end vT_tape_number cT_tape_bytes = some u ∧ f_X8_text vM_taped vM_at vM_sort vM_from vM_value vM_fault cM_d cM_e cM_tape = some v ∧ u.1 = v.1 ∧ Inv u.2.2.2.2.2.2.2.2.2.1 u.2.2.2.2.2.2.2.2.2.2.2.1 u.2.2.2.2.2.2.2.2.2.2.2.2.2.1 u.2.2.2.2.2.2.2.2.2.2.2.2.2.2.2.1 u.2.2.2.2.2.2.2.2.2.2.2.2.2.2.2.2.2.1 u.2.2.2.2.2.2.2.2.2.2.2.2.2.2.2.2.2.2.2.1 u.2.2.2.2.2.1 u.2.2.2.2.2.2.1 u.2.2.2.2.2.2.2.1 u.2.2.2.2.2.2.2.2.1 vT_pictured cT_picture_kind cT_picture_above cT_picture_edge cT_picture_pool cT_picture_store cT_picture_spot vT_picture_basins vT_picture_spring vT_picture_hour vT_picture_z cT_told cT_tape_bytes u.2.2.2.2.2.2.2.2.2.2.2.2.2.2.2.2.2.2.2.2.2.1 vT_sheets_bits vT_sheets_size cT_sheets_numbers v.2.2.2.2.2.2.2.1 vM_isKept cM_kept cM_found cM_tape v.2.1 cM_bitsOf cM_sizeOf cM_number := by
  obtain ⟨⟨f, hV, hC, hM⟩, hI2, hT, hP, hS⟩ := hI
  have hF : RF cT_present_kind cT_present_above cT_present_edge cT_present_pool cT_present_store cT_present_spot vT_present_basins vT_present_spring vT_present_hour vT_present_z cM_d := ⟨f, hV, hC, hM⟩
  have hn : f.n ≤ 10 := hV.1
  have hG : VG f := VG_of hV
  obtain rfl := hC.1
  obtain rfl := hC.2.1
  obtain rfl := hC.2.2.1
  have hh : f.hr ≤ 9999 := hV.2.2.2.1
  obtain ⟨n, hn120, hz7, hz8, hby⟩ := hP
  subst hz7 hz8
  have hB : TB (fun k => (cT_tape_bytes k).toInt.toNat) n cT_tape_bytes cM_tape := by
    refine ⟨hn120, fun k hk => ?_⟩
    obtain ⟨b, hb, e1, e2⟩ := hby k hk
    have e : (cT_tape_bytes k).toInt.toNat = b := by
      rw [e1, nI_toInt (by omega), Int.toNat_natCast]
    dsimp only
    rw [e]
    exact ⟨hb, e1, e2⟩
  obtain ⟨tk', ta', te', tp', ts', tt', hSt, hCt⟩ := start_e hn hC vT_trial_basins vT_trial_spring vT_trial_hour vT_trial_z cT_trial_kind cT_trial_above cT_trial_edge cT_trial_pool cT_trial_store cT_trial_spot
  obtain ⟨F1, hF1, hF2⟩ := copies_e cM_d cM_e
  obtain ⟨⟨u1, u2, u3, u4, u5, u6, u7, u8, u9, u10, u11, u12⟩, ⟨v1, v2, v3, v4, v5, v6, v7⟩, hu, hv, hR⟩ := read_two hB hV hCt hM vT_tape_token vT_tape_start vT_tape_number vM_sort vM_from vM_fault vM_value vM_at vT_tape_end
  have hP0 : RP cT_tape_bytes 0 cM_tape 0 := ⟨0, by omega, rfl, rfl, fun k hk => absurd hk (by omega)⟩
  unfold f_X7_text f_X8_text
  rw [bd_t hSt, bd_t hF1]
  dsimp only
  rw [bd_t hu, bd_t hv]
  dsimp only at hR ⊢
  rcases hR with ⟨s, hs, rfl, rfl⟩ | ⟨k, h, hk, rfl, rfl, rfl, hVh, hCh, hMh⟩
  · obtain ⟨D, hD, hD2⟩ := copies_e F1 v7
    rw [br_t1 (m1_neg (by omega)), br_f1 (nI_pos (by omega)), bd_t hD]
    exact ⟨_, _, rfl, rfl, rfl, ⟨f, hV, hC, MF_cong hn hM (fun j hj => (hD2 j hj).trans (hF2 j hj))⟩, hI2, hT, hP0, hS⟩
  · rw [br_f1 (nI_pos (by omega)), br_t1 (show (-1 : Int32) < 0 by decide), bd_t (show f_X2_become u6 u7 (nI f.hr) vT_present_z (nI f.n) (nI f.sg) (nI f.hr) vT_present_z u8 cT_present_kind u9 cT_present_above u10 cT_present_edge u11 cT_present_pool u12 cT_present_store tt' cT_present_spot = some _ from rfl)]
    exact ⟨_, _, rfl, rfl, rfl, ⟨h, hVh, CF_cpy hVh.1 _ _ _ _ _ _ hCh, hMh⟩, hI2, hT, hP0, hS⟩
