/-! ===== of fountains, by naturals: sums over the houses, what stays, what is set twice ===== -/
theorem gt_s (f : Fo) (k b : Nat) : f.gt (k + 1) b = f.gt k b + (f.it k).kp b := rfl
theorem gt_sum (f : Fo) : ∀ k, sumN (fun q => f.gt k q) f.n = f.kpT k
  | 0 => sumN_zero.mpr (fun _ _ => rfl)
  | k + 1 => by
    have ih := gt_sum f k
    have e : sumN (fun q => f.gt (k + 1) q) f.n = sumN (fun q => f.gt k q + (f.it k).kp q) f.n := rfl
    rw [e, sumN_add, ih]
    show f.kpT k + sumN (f.it k).kp f.n = f.kpT k + sumN (f.it k).kp (f.it k).n
    rw [(it_same f k).1]
def Fo.hdS (f : Fo) : Nat := sumN f.hd f.n
theorem cd_sum (f : Fo) : ∀ i, 1 ≤ i → sumN f.cm i = f.sg + sumN f.cd i
  | 0, h => absurd h (by omega)
  | 1, _ => by
    show 0 + f.cm 0 = f.sg + (0 + f.cd 0)
    rw [cm_0, show f.cd 0 = 0 from rfl]
    omega
  | i + 2, _ => by
    have ih := cd_sum f (i + 1) (by omega)
    have e : f.cd (i + 1) = f.cm (i + 1) := if_neg (by omega)
    rw [sumN, ih, show sumN f.cd (i + 2) = sumN f.cd (i + 1) + f.cd (i + 1) from rfl, e]
    omega
/-- each cup of the spring is kept, leaked, held or runs off -/
theorem flow_all {f : Fo} (hV : VG f) (hn : f.n ≠ 0) : f.sg = f.kpS + f.lkS + f.roS + f.hdS := by
  have h1 := cd_sum f f.n (by omega)
  have h2 := go_off hV
  have h3 : sumN f.cm f.n = sumN (fun b => (f.lk b + f.kp b) + (f.hd b + f.go b)) f.n := sumN_cong (fun b hb => by
    have e1 : f.lk b ≤ f.cm b := kLeak_le _ _
    have e2 : f.kp b ≤ f.cm b - f.lk b := kKeep_le _ _
    have e3 : f.hd b ≤ f.cm b - f.lk b - f.kp b := kHold_le _ _ _
    have e4 : f.go b = f.cm b - f.lk b - f.kp b - f.hd b := rfl
    omega)
  rw [sumN_add, sumN_add, sumN_add] at h3
  show f.sg = sumN f.kp f.n + sumN f.lk f.n + f.roS + sumN f.hd f.n
  omega
theorem fset2 {α : Type} (g : Nat → α) (b : Nat) (e v : α) : fset (fset g b e) b v = fset g b v := by
  funext j
  unfold fset
  by_cases h : j = b
  · rw [if_pos h, if_pos h]
  · rw [if_neg h, if_neg h, if_neg h]
theorem fset0 {α : Type} (g : Nat → α) (b : Nat) : fset g b (g b) = g := by
  funext j
  unfold fset
  by_cases h : j = b
  · rw [if_pos h, h]
  · rw [if_neg h]
theorem setEd2 (f : Fo) (b e v : Nat) : (f.setEd b e).setEd b v = f.setEd b v := congrArg (fun g => ((f.n, f.kd, f.ab, g, f.po, f.st, f.sp, f.sg, f.hr, f.z) : Fo)) (fset2 f.ed b e v)
theorem setEd0 (f : Fo) (b : Nat) : f.setEd b (f.ed b) = f := congrArg (fun g => ((f.n, f.kd, f.ab, g, f.po, f.st, f.sp, f.sg, f.hr, f.z) : Fo)) (fset0 f.ed b)
theorem setKd2 (f : Fo) (b e v : Nat) : (f.setKd b e).setKd b v = f.setKd b v := congrArg (fun g => ((f.n, g, f.ab, f.ed, f.po, f.st, f.sp, f.sg, f.hr, f.z) : Fo)) (fset2 f.kd b e v)
theorem setKd0 (f : Fo) (b : Nat) : f.setKd b (f.kd b) = f := congrArg (fun g => ((f.n, g, f.ab, f.ed, f.po, f.st, f.sp, f.sg, f.hr, f.z) : Fo)) (fset0 f.kd b)
theorem setAb2 (f : Fo) (b e v : Nat) : (f.setAb b e).setAb b v = f.setAb b v := congrArg (fun g => ((f.n, f.kd, g, f.ed, f.po, f.st, f.sp, f.sg, f.hr, f.z) : Fo)) (fset2 f.ab b e v)
theorem setAb0 (f : Fo) (b : Nat) : f.setAb b (f.ab b) = f := congrArg (fun g => ((f.n, f.kd, g, f.ed, f.po, f.st, f.sp, f.sg, f.hr, f.z) : Fo)) (fset0 f.ab b)
def bestE (f : Fo) (h b e : Nat) : Prop := 1 ≤ e ∧ e ≤ 9 ∧ ∀ v, 1 ≤ v → v ≤ 9 → (f.setEd b v).gt h b ≤ (f.setEd b e).gt h b
def bestK (f : Fo) (h b e : Nat) : Prop := e ≤ 6 ∧ ∀ v, v ≤ 6 → (f.setKd b v).gt h b ≤ (f.setKd b e).gt h b
def bestP (f : Fo) (h b e : Nat) : Prop := e < b ∧ ∀ v, v < b → (f.setAb b v).gt h b ≤ (f.setAb b e).gt h b
theorem gt_31 {g : Fo} (hV : VG g) {h b : Nat} (hh : h ≤ 1000) (hb : b < g.n) : g.gt h b < 2 ^ 31 := by
  have := gt_le hV h hb
  omega
/-- bestI where the row is bounded only where it counts -/
theorem bestI_cong {g g' : Nat → Nat} {lo : Nat} : ∀ n, (∀ i, i < n → g (lo + i) = g' (lo + i)) → bestI g lo n = bestI g' lo n
  | 0, _ => rfl
  | n + 1, h => by
    have ih := bestI_cong (g := g) (g' := g') (lo := lo) n (fun i hi => h i (by omega))
    have e := h n (by omega)
    by_cases q : nI (g (lo + n)) ≤ (bestI g lo n).2
    · rw [bestI_t q, ih, bestI_t (g := g') (by rw [← e, ← ih]; exact q)]
    · rw [bestI_f q, bestI_f (g := g') (by rw [← e, ← ih]; exact q), e]
theorem bestI_spec2 {g : Nat → Nat} {lo n : Nat} (hg : ∀ v, lo ≤ v → v < lo + n → g v < 2 ^ 31) (hlo : lo < 2 ^ 20) (h1 : 1 ≤ n) (h2 : n ≤ 1000) : ∃ j, lo ≤ j ∧ j < lo + n ∧ (bestI g lo n).1 = nI j ∧ ∀ i, lo ≤ i → i < lo + n → g i ≤ g j := by
  have e := bestI_cong (g := g) (g' := fun v => if lo ≤ v ∧ v < lo + n then g v else 0) (lo := lo) n (fun i hi => (if_pos ⟨by omega, by omega⟩).symm)
  obtain ⟨j, a1, a2, a3, a4⟩ := bestI_spec (g := fun v => if lo ≤ v ∧ v < lo + n then g v else 0) (lo := lo) (fun v => by
    by_cases h : lo ≤ v ∧ v < lo + n
    · rw [if_pos h]; exact hg v h.1 h.2
    · rw [if_neg h]; decide) hlo n h1 h2
  refine ⟨j, a1, a2, by rw [e, a3], fun i b1 b2 => ?_⟩
  have h := a4 i b1 b2
  rw [if_pos ⟨b1, b2⟩, if_pos ⟨a1, a2⟩] at h
  exact h
theorem edge_best {f : Fo} (hV : VF f) {h b : Nat} (hh : h ≤ 60) (hb : b < f.n) : ∃ e, (bestI (fun v => (f.setEd b v).gt h b) 1 9).1 = nI e ∧ bestE f h b e := by
  obtain ⟨j, a1, a2, a3, a4⟩ := bestI_spec2 (g := fun v => (f.setEd b v).gt h b) (lo := 1) (n := 9) (fun v h1 h2 => gt_31 (VG_Ed (VG_of hV) b h1 (by omega)) (by omega) hb) (by decide) (by decide) (by decide)
  exact ⟨j, a3, a1, by omega, fun v h1 h2 => a4 v h1 (by omega)⟩
theorem kind_best {f : Fo} (hV : VF f) {h b : Nat} (hh : h ≤ 60) (hb : b < f.n) : ∃ e, (bestI (fun v => (f.setKd b v).gt h b) 0 7).1 = nI e ∧ bestK f h b e := by
  obtain ⟨j, a1, a2, a3, a4⟩ := bestI_spec2 (g := fun v => (f.setKd b v).gt h b) (lo := 0) (n := 7) (fun v h1 h2 => gt_31 (VG_Kd (VG_of hV) b (by omega)) (by omega) hb) (by decide) (by decide) (by decide)
  exact ⟨j, a3, by omega, fun v h2 => a4 v (by omega) (by omega)⟩
theorem place_best {f : Fo} (hV : VF f) {h b : Nat} (hh : h ≤ 60) (hb0 : b ≠ 0) (hb : b < f.n) : ∃ e, (bestI (fun v => (f.setAb b v).gt h b) 0 b).1 = nI e ∧ bestP f h b e := by
  have hn := hV.1
  obtain ⟨j, a1, a2, a3, a4⟩ := bestI_spec2 (g := fun v => (f.setAb b v).gt h b) (lo := 0) (n := b) (fun v h1 h2 => gt_31 (VG_Ab (VG_of hV) (by omega)) (by omega) hb) (by decide) (by omega) (by omega)
  exact ⟨j, a3, by omega, fun v h2 => a4 v (by omega) (by omega)⟩
theorem best_usual_e {f : Fo} (hV : VF f) {h b e : Nat} (hb : b < f.n) (hB : bestE f h b e) : f.gt h b ≤ (f.setEd b e).gt h b := by
  have := hB.2.2 (f.ed b) (hV.2.1 b hb).2.1 (hV.2.1 b hb).2.2.1
  rw [setEd0] at this
  exact this
theorem best_usual_k {f : Fo} (hV : VF f) {h b e : Nat} (hb : b < f.n) (hB : bestK f h b e) : f.gt h b ≤ (f.setKd b e).gt h b := by
  have := hB.2 (f.kd b) (hV.2.1 b hb).1
  rw [setKd0] at this
  exact this
theorem best_usual_p {f : Fo} (hV : VF f) {h b e : Nat} (hb0 : b ≠ 0) (hb : b < f.n) (hB : bestP f h b e) : f.gt h b ≤ (f.setAb b e).gt h b := by
  have := hB.2 (f.ab b) ((hV.2.1 b hb).2.2.2.2 (by omega))
  rw [setAb0] at this
  exact this
theorem n3_add (b : Nat) : (3 : Int32) + nI b = nI (3 + b) := nI_add 3 b
theorem n0_le (k : Nat) (hk : k < 2 ^ 31) : (0 : Int32) ≤ nI k := nI_le (a := 0) (by omega) hk
theorem n0_nlt (k : Nat) (hk : k < 2 ^ 31) : ¬ nI k < (0 : Int32) := nI_pos hk
/-- the script's cells, as naturals -/
theorem cell_e {L : Nat} {xs : Nat → Int32} (hL : L ≤ 260) {k : Nat} (hk : k ≤ 1000) : ∃ m, m < 2 ^ 31 ∧ f_L_cell L xs (nI k) = some (nI m) := by
  unfold f_L_cell
  by_cases h : L ≤ k
  · refine ⟨23 + 53 * (k - L), by omega, ?_⟩
    rw [br_t1 (show Int32.ofNat L ≤ nI k from nI_le h (by omega))]
    congr 1
    rw [show Int32.ofNat L = nI L from rfl, pk_sub h, show (53 : Int32) = nI 53 from rfl, pk_mul, show (23 : Int32) = nI 23 from rfl, nI_add]
  · rw [br_f1 (show ¬ Int32.ofNat L ≤ nI k from nI_ge (by omega) (by omega)), gd_t (vp_in_nI (by omega) (by omega))]
    generalize xs (nI k).toNatClampNeg = x
    refine ⟨x.toBitVec.toNat % 2 ^ 31, Nat.mod_lt _ (by decide), ?_⟩
    congr 1
    rw [← Int32.toBitVec_inj, Int32.toBitVec_and]
    apply BitVec.eq_of_toNat_eq
    rw [BitVec.toNat_and, show (2147483647 : Int32).toBitVec.toNat = 2 ^ 31 - 1 from rfl, Nat.and_two_pow_sub_one_eq_mod]
    have h2 : x.toBitVec.toNat % 2 ^ 31 < 2 ^ 31 := Nat.mod_lt _ (by decide)
    show x.toBitVec.toNat % 2 ^ 31 = (BitVec.ofNat 32 (x.toBitVec.toNat % 2 ^ 31)).toNat
    rw [BitVec.toNat_ofNat, Nat.mod_eq_of_lt (a := x.toBitVec.toNat % 2 ^ 31) (b := 2 ^ 32) (by omega)]
