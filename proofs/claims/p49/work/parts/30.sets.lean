/-! ===== sets as bits; cases hurt, generous, law, deal ===== -/
def tb (x : Int32) (k : Nat) : Bool := x.toBitVec.getLsbD k
def btI (i : Nat) : Int32 := (1 : Int32) <<< (nI i &&& 31)
theorem tb_bt : ∀ i, i < 10 → ∀ k, k < 32 → tb (btI i) k = decide (k = i) := by decide +kernel
theorem tb_ext {x y : Int32} (h : ∀ k, k < 32 → tb x k = tb y k) : x = y := Int32.toBitVec_inj.mp (BitVec.eq_of_getLsbD_eq h)
theorem tb_and (x y : Int32) (k : Nat) : tb (x &&& y) k = (tb x k && tb y k) := by unfold tb; rw [Int32.toBitVec_and, BitVec.getLsbD_and]
theorem tb_or (x y : Int32) (k : Nat) : tb (x ||| y) k = (tb x k || tb y k) := by unfold tb; rw [Int32.toBitVec_or, BitVec.getLsbD_or]
theorem tb_xor (x y : Int32) (k : Nat) : tb (x ^^^ y) k = (tb x k ^^ tb y k) := by unfold tb; rw [Int32.toBitVec_xor, BitVec.getLsbD_xor]
theorem tb_m1 : ∀ k, k < 32 → tb (-1) k = true := by decide +kernel
theorem tb_0 : ∀ k, k < 32 → tb 0 k = false := by decide +kernel
noncomputable def setI (P : Nat → Prop) : Nat → Int32
  | 0 => 0
  | i + 1 => @ite _ (P i) (Classical.propDecidable _) (setI P i ||| btI i) (setI P i)
theorem setI_t {P : Nat → Prop} {i : Nat} (h : P i) : setI P (i + 1) = setI P i ||| btI i := by rw [setI]; exact if_pos h
theorem setI_f {P : Nat → Prop} {i : Nat} (h : ¬ P i) : setI P (i + 1) = setI P i := by rw [setI]; exact if_neg h
theorem setI_cong {P Q : Nat → Prop} : ∀ {n : Nat}, (∀ k, k < n → (P k ↔ Q k)) → setI P n = setI Q n
  | 0, _ => rfl
  | n + 1, h => by
    have ih := setI_cong (n := n) (fun k hk => h k (by omega))
    by_cases q : P n
    · rw [setI_t q, setI_t ((h n (by omega)).mp q), ih]
    · rw [setI_f q, setI_f (fun z => q ((h n (by omega)).mpr z)), ih]
theorem tb_setI {P : Nat → Prop} : ∀ n, n ≤ 10 → ∀ k, k < 32 → (tb (setI P n) k = true ↔ k < n ∧ P k)
  | 0, _, k, hk => by
    rw [setI, tb_0 k hk]
    exact ⟨fun h => absurd h (by decide), fun h => absurd h.1 (by omega)⟩
  | n + 1, hn, k, hk => by
    have ih := tb_setI (P := P) n (by omega) k hk
    by_cases q : P n
    · rw [setI_t q, tb_or, tb_bt n (by omega) k hk, Bool.or_eq_true, ih, decide_eq_true_eq]
      constructor
      · rintro (⟨h1, h2⟩ | rfl)
        · exact ⟨by omega, h2⟩
        · exact ⟨by omega, q⟩
      · rintro ⟨h1, h2⟩
        by_cases e : k = n
        · exact Or.inr e
        · exact Or.inl ⟨by omega, h2⟩
    · rw [setI_f q, ih]
      constructor
      · rintro ⟨h1, h2⟩
        exact ⟨by omega, h2⟩
      · rintro ⟨h1, h2⟩
        refine ⟨?_, h2⟩
        by_cases e : k = n
        · rw [e] at h2; exact absurd h2 q
        · omega
theorem both_iff {S : Int32} {a b : Nat} (ha : a < 10) (hb : b < 10) : S &&& (btI a ||| btI b) = btI a ||| btI b ↔ tb S a = true ∧ tb S b = true := by
  have e : ∀ k, k < 32 → tb (S &&& (btI a ||| btI b)) k = (tb S k && (decide (k = a) || decide (k = b))) := fun k hk => by
    rw [tb_and, tb_or, tb_bt a ha k hk, tb_bt b hb k hk]
  have e2 : ∀ k, k < 32 → tb (btI a ||| btI b) k = (decide (k = a) || decide (k = b)) := fun k hk => by
    rw [tb_or, tb_bt a ha k hk, tb_bt b hb k hk]
  constructor
  · intro h
    have h1 := e a (by omega)
    have h2 := e b (by omega)
    rw [h, e2 _ (by omega)] at h1 h2
    rw [decide_eq_true (show a = a from rfl), Bool.true_or, Bool.and_true] at h1
    rw [decide_eq_true (show b = b from rfl), Bool.or_true, Bool.and_true] at h2
    exact ⟨h1.symm, h2.symm⟩
  · rintro ⟨h1, h2⟩
    apply tb_ext
    intro k hk
    rw [e k hk, e2 k hk]
    by_cases ka : k = a
    · rw [ka, h1, Bool.true_and]
    · by_cases kb : k = b
      · rw [kb, h2, Bool.true_and]
      · rw [decide_eq_false ka, decide_eq_false kb, Bool.or_false, Bool.and_false]
noncomputable def cntN (P : Nat → Prop) : Nat → Nat
  | 0 => 0
  | i + 1 => @ite _ (P i) (Classical.propDecidable _) (cntN P i + 1) (cntN P i)
theorem cntN_t {P : Nat → Prop} {i : Nat} (h : P i) : cntN P (i + 1) = cntN P i + 1 := by rw [cntN]; exact if_pos h
theorem cntN_f {P : Nat → Prop} {i : Nat} (h : ¬ P i) : cntN P (i + 1) = cntN P i := by rw [cntN]; exact if_neg h
theorem cntN_le {P : Nat → Prop} : ∀ n, cntN P n ≤ n
  | 0 => Nat.le_refl _
  | n + 1 => by
    have := cntN_le (P := P) n
    by_cases q : P n
    · rw [cntN_t q]; omega
    · rw [cntN_f q]; omega
theorem cntN_cong {P Q : Nat → Prop} : ∀ {n : Nat}, (∀ k, k < n → (P k ↔ Q k)) → cntN P n = cntN Q n
  | 0, _ => rfl
  | n + 1, h => by
    have ih := cntN_cong (n := n) (fun k hk => h k (by omega))
    by_cases q : P n
    · rw [cntN_t q, cntN_t ((h n (by omega)).mp q), ih]
    · rw [cntN_f q, cntN_f (fun z => q ((h n (by omega)).mpr z)), ih]
theorem cntN_ext {P : Nat → Prop} {n : Nat} (h : ∀ k, n ≤ k → ¬ P k) : ∀ d, cntN P (n + d) = cntN P n
  | 0 => rfl
  | d + 1 => by
    rw [show n + (d + 1) = (n + d) + 1 from rfl, cntN_f (h (n + d) (by omega))]
    exact cntN_ext h d
theorem smod_k : ∀ k, k < 10 → ((nI k &&& 31).toBitVec.smod 32).toNat = k := by decide +kernel
theorem shr_bit (x : Int32) {k : Nat} (hk : k < 10) : (x >>> (nI k &&& 31)) &&& 1 = if tb x k = true then 1 else 0 := by
  apply tb_ext
  intro j hj
  have h1 : tb 1 j = decide (j = 0) := tb_bt 0 (by decide) j hj
  have h2 : tb (x >>> (nI k &&& 31)) 0 = tb x k := by
    unfold tb
    rw [Int32.toBitVec_shiftRight, BitVec.getLsbD_sshiftRight', smod_k k hk, Nat.add_zero, if_pos (by omega)]
    rfl
  rw [tb_and, h1]
  by_cases h0 : j = 0
  · subst h0
    rw [h2, decide_eq_true rfl, Bool.and_true]
    by_cases q : tb x k = true
    · rw [if_pos q, q]; rfl
    · rw [if_neg q, Bool.eq_false_iff.mpr q]; exact (tb_0 0 (by decide)).symm
  · rw [decide_eq_false h0, Bool.and_false]
    by_cases q : tb x k = true
    · rw [if_pos q, h1, decide_eq_false h0]
    · rw [if_neg q, tb_0 j hj]
theorem usual_e {f : Fo} (hV : VG f) {kind above edge pool store spot : Nat → Int32} {basins spring hour z : Int32} (hC : CF f kind above edge pool store spot basins spring hour z) {k : Nat} (hk : k ≤ 1000) (tb ts th tz : Int32) (tk ta te tp tst tsp : Nat → Int32) (v1 v2 v3 v4 v5 v6 v7 : Int32) (w1 w2 w3 w4 w5 us : Nat → Int32) :
    ∃ (tb' ts' th' tz' : Int32) (tk' ta' te' tp' tst' tsp' : Nat → Int32) (v1' v2' v3' v4' v5' v6' v7' : Int32) (w1' w2' w3' w4' w5' us' : Nat → Int32), f_X7_noteUsualGains (nI k) tb ts th tz basins spring hour z kind tk above ta edge te pool tp store tst spot tsp v1 v2 v3 v4 v5 v6 v7 w1 w2 w3 w4 w5 us = some (tb', ts', th', tz', tk', ta', te', tp', tst', tsp', v1', v2', v3', v4', v5', v6', v7', w1', w2', w3', w4', w5', us') ∧ ∀ o, o < f.n → us' o = nI (f.gt k o) := by
  have hn := hV.1
  unfold f_X7_noteUsualGains
  obtain ⟨tk', ta', te', tp', ts', tt', hSt, hCt⟩ := start_e hn hC tb ts th tz tk ta te tp tst tsp
  obtain ⟨vk', vl', vr', vu', w', g', c', k', p', h', s', hp, hpv⟩ := pass_e2 hV hCt (k := k) hk v1 v2 v3 v4 v5 v6 v7 w1 w2 w3 w4 w5
  rw [bd_t hSt]
  dsimp only
  rw [bd_t hp]
  dsimp only
  have hb0 : basins = nI f.n := hC.1
  unfold f_X7_noteUsualGains_L18
  refine lp_go2 _ (fun i (s : Int32 × Int32 × Int32 × Int32 × Int32 × (Nat → Int32) × (Nat → Int32) × (Nat → Int32) × (Nat → Int32) × (Nat → Int32) × (Nat → Int32) × Int32 × Int32 × Int32 × Int32 × Int32 × Int32 × Int32 × (Nat → Int32) × (Nat → Int32) × (Nat → Int32) × (Nat → Int32) × (Nat → Int32) × (Nat → Int32)) => s.1 = nI i ∧ s.2.2.2.2.2.2.2.2.2.1 = s' ∧ ∀ o, o < i → s.2.2.2.2.2.2.2.2.2.2.2.2.2.2.2.2.2.2.2.2.2.2.2 o = nI (f.gt k o)) f.n
    (fun r => ∃ (tb' ts' th' tz' : Int32) (tk' ta' te' tp' tst' tsp' : Nat → Int32) (v1' v2' v3' v4' v5' v6' v7' : Int32) (w1' w2' w3' w4' w5' us' : Nat → Int32), r = some (tb', ts', th', tz', tk', ta', te', tp', tst', tsp', v1', v2', v3', v4', v5', v6', v7', w1', w2', w3', w4', w5', us') ∧ ∀ o, o < f.n → us' o = nI (f.gt k o)) ?_ _ ⟨rfl, rfl, fun b hb => absurd hb (by omega)⟩ (FU_gt (by omega))
  rintro i ⟨y, tb, ts, th, tz, tk, ta, te, tp, tst, tsp, v1, v2, v3, v4, v5, v6, v7, w1, w2, w3, w4, w5, u1⟩ hi ⟨a1, a2, a3⟩ rc
  dsimp only at a1 a2 a3 ⊢
  subst a1 a2
  unfold f_X7_noteUsualGains_L18_b
  rw [hb0]
  by_cases hx : i = f.n
  · left
    subst hx
    rw [br_t1 (nI_le (Nat.le_refl _) (by omega))]
    exact ⟨_, _, _, _, _, _, _, _, _, _, _, _, _, _, _, _, _, _, _, _, _, _, _, rfl, a3⟩
  · right
    have hi' : i < f.n := by omega
    have v : vp_in (nI i) 10 := vp_in_nI (by omega) (by decide)
    rw [br_f1 (nI_ge hi' (by omega)), bd_t (gain_e (f := f) (k := k) hn hi' (hpv i hi').2.1 (hC.2.2.2.2.1 i hi').2.2.2.2), gd_t v, nI_clamp (by omega)]
    refine ⟨hi', _, ?_, rfl⟩
    refine ⟨nI_1 i, rfl, fun b hb => ?_⟩
    show upd u1 i _ b = _
    by_cases e : b = i
    · rw [e, pk_us]
    · rw [pk_un e]; exact a3 b (by omega)
