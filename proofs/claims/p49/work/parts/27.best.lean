/-! ===== the best of some: edge, place, kindFor ===== -/
theorem lp_go3 {σ α : Type} {step : (σ → Option α) → σ → Option α} {s0 : σ} {Q : α → Prop} (n : Nat) (I : Nat → σ → Prop) (h0 : I 0 s0) (hn : n < FU)
    (h : ∀ i s, i ≤ n → I i s → ∀ rc, (∃ r, step rc s = some r ∧ Q r) ∨ (i < n ∧ ∃ s', I (i + 1) s' ∧ step rc s = rc s')) : ∃ r, lp step FU s0 = some r ∧ Q r :=
  lp_go2 step I n (fun o => ∃ r, o = some r ∧ Q r) h s0 h0 hn
theorem two_ex {α β : Type} {a : Option α} {b : Option β} {R : α → β → Prop} (P : α → Prop) (Q : β → Prop) (h1 : ∃ u, a = some u ∧ P u) (h2 : ∃ v, b = some v ∧ Q v) (h : ∀ u v, P u → Q v → R u v) : ∃ u v, a = some u ∧ b = some v ∧ R u v := by
  obtain ⟨u, hu, hP⟩ := h1
  obtain ⟨v, hv, hQ⟩ := h2
  exact ⟨u, v, hu, hv, h u v hP hQ⟩
theorem bd_ex {α β : Type} {x : Option α} {k : α → Option β} {Q : β → Prop} (P : α → Prop) (h : ∃ u, x = some u ∧ P u) (h2 : ∀ u, P u → ∃ r, k u = some r ∧ Q r) : ∃ r, bd x k = some r ∧ Q r := by
  obtain ⟨u, hu, hP⟩ := h
  rw [bd_t hu]
  exact h2 u hP
theorem pass_e2 {f : Fo} (hV : VG f) {kind above edge pool store spot : Nat → Int32} {basins spring hour z : Int32} (hC : CF f kind above edge pool store spot basins spring hour z) {k : Nat} (hk : k ≤ 1000) (vk vl vr vu va vb vc : Int32) (W g c kk h : Nat → Int32) :
    ∃ (vk' vl' vr' vu' : Int32) (w' g' c' k' p' h' s' : Nat → Int32), f_X1_pass (nI k) vk vl vr vu va vb vc basins spring hour W above edge g c kind kk pool h store = some (vk', vl', vr', vu', nI (f.kpT k), nI (f.lkT k), nI (f.roT k), nI (f.hr + k), w', g', c', k', p', h', s') ∧
      ∀ b, b < f.n → p' b = nI ((f.it k).po b) ∧ s' b = (f.it k).st b ∧ ∀ j, k = j + 1 → k' b = nI ((f.it j).kp b) := by
  obtain rfl := hC.1
  obtain rfl := hC.2.1
  obtain rfl := hC.2.2.1
  exact pass_e hV hC hk vk vl vr vu va vb vc W g c kk h
theorem gain_e2 {f g : Fo} {k b : Nat} (hn : f.n ≤ 10) (hb : b < f.n) (hg : g.st b = f.st b) {s p : Nat → Int32} (hs : s b = (g.it k).st b) (hp : p b = f.st b) : f_X7_gain (nI b) s p = some (nI (g.gt k b)) := by
  unfold f_X7_gain
  have v : vp_in (nI b) 10 := vp_in_nI (by omega) (by decide)
  rw [gd_t v, gd_t v, nI_clamp (by omega), hs, hp, it_st, hg, Int32.add_comm, Int32.add_sub_cancel]
noncomputable def bestI (g : Nat → Nat) (lo : Nat) : Nat → Int32 × Int32
  | 0 => (nI lo, -1)
  | i + 1 => @ite _ (nI (g (lo + i)) ≤ (bestI g lo i).2) (Classical.propDecidable _) (bestI g lo i) (nI (lo + i), nI (g (lo + i)))
theorem bestI_t {g : Nat → Nat} {lo i : Nat} (h : nI (g (lo + i)) ≤ (bestI g lo i).2) : bestI g lo (i + 1) = bestI g lo i := by rw [bestI]; exact if_pos h
theorem bestI_f {g : Nat → Nat} {lo i : Nat} (h : ¬ nI (g (lo + i)) ≤ (bestI g lo i).2) : bestI g lo (i + 1) = (nI (lo + i), nI (g (lo + i))) := by rw [bestI]; exact if_neg h
theorem upd_twice {d D : Nat → Int32} {ix n : Nat} {v : Int32} (h : ∀ i, i < n → i ≠ ix → D i = d i) : ∀ i, i < n → upd D ix v i = upd d ix v i := by
  intro i hi
  by_cases e : i = ix
  · rw [e, pk_us, pk_us]
  · rw [pk_un e, pk_un e, h i hi e]
theorem VG_Ed {f : Fo} (h : VG f) (b : Nat) {v : Nat} (h1v : 1 ≤ v) (hv : v ≤ 9) : VG (f.setEd b v) := by
  refine ⟨h.1, fun j hj => ?_, h.2.2⟩
  obtain ⟨h1, h2, h3, h4, h5⟩ := h.2.1 j hj
  refine ⟨h1, ?_, ?_, h4, h5⟩
  · show 1 ≤ fset f.ed b v j
    by_cases e : j = b
    · rw [e, fset_s]; exact h1v
    · rw [fset_n e]; exact h2
  · show fset f.ed b v j ≤ 9
    by_cases e : j = b
    · rw [e, fset_s]; exact hv
    · rw [fset_n e]; exact h3
theorem VG_Kd {f : Fo} (h : VG f) (b : Nat) {v : Nat} (hv : v ≤ 6) : VG (f.setKd b v) := by
  refine ⟨h.1, fun j hj => ?_, h.2.2⟩
  obtain ⟨h1, h2, h3, h4, h5⟩ := h.2.1 j hj
  refine ⟨?_, h2, h3, h4, h5⟩
  show fset f.kd b v j ≤ 6
  by_cases e : j = b
  · rw [e, fset_s]; exact hv
  · rw [fset_n e]; exact h1
theorem VG_Ab {f : Fo} (h : VG f) {b v : Nat} (hv : v < b) : VG (f.setAb b v) := by
  refine ⟨h.1, fun j hj => ?_, h.2.2⟩
  obtain ⟨h1, h2, h3, h4, h5⟩ := h.2.1 j hj
  refine ⟨h1, h2, h3, h4, fun q => ?_⟩
  show fset f.ab b v j < j
  by_cases e : j = b
  · rw [e, fset_s]; exact hv
  · rw [fset_n e]; exact h5 q
theorem asKind_e {f : Fo} (hV : VG f) {kind above edge pool store spot : Nat → Int32} {basins spring hour z : Int32} (hC : CF f kind above edge pool store spot basins spring hour z) {b c k : Nat} (hb : b < f.n) (hc : c ≤ 6) (hk : k ≤ 1000) (tb ts th tz : Int32) (tk ta te tp tst tsp : Nat → Int32) (v1 v2 v3 v4 v5 v6 v7 : Int32) (w1 w2 w3 w4 w5 : Nat → Int32) :
    ∃ (tb' ts' th' tz' : Int32) (tk' ta' te' tp' tst' tsp' : Nat → Int32) (v1' v2' v3' v4' v5' v6' v7' : Int32) (w1' w2' w3' w4' w5' : Nat → Int32), f_X7_passAsKind (nI b) (nI c) (nI k) tb ts th tz basins spring hour z kind tk above ta edge te pool tp store tst spot tsp v1 v2 v3 v4 v5 v6 v7 w1 w2 w3 w4 w5 = some (tb', ts', th', tz', tk', ta', te', tp', tst', tsp', v1', v2', v3', v4', v5', v6', v7', w1', w2', w3', w4', w5') ∧ ∀ o, o < f.n → tst' o = ((f.setKd b c).it k).st o := by
  have hn := hV.1
  unfold f_X7_passAsKind
  obtain ⟨tk', ta', te', tp', ts', tt', hSt, hCt⟩ := start_e hn hC tb ts th tz tk ta te tp tst tsp
  have hCe := CF_Kd hCt b c
  have v : vp_in (nI b) 10 := vp_in_nI (by omega) (by decide)
  rw [bd_t hSt]
  dsimp only
  obtain ⟨vk', vl', vr', vu', w', g', c', k', p', h', s', hp, hpv⟩ := pass_e2 (VG_Kd hV b (v := c) hc) hCe (k := k) hk v1 v2 v3 v4 v5 v6 v7 w1 w2 w3 w4 w5
  rw [gd_t v, nI_clamp (by omega), bd_t hp]
  exact ⟨_, _, _, _, _, _, _, _, _, _, _, _, _, _, _, _, _, _, _, _, _, _, rfl, fun o ho => (hpv o ho).2.1⟩
