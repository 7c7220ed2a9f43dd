/-! ===== pure: sums; loops whose next state hangs on what goes on ===== -/
theorem lp_inv2 {σ α : Type} (step : (σ → Option α) → σ → Option α) (I : Nat → σ → Prop) (n : Nat) (P : Option α → Prop)
    (h : ∀ i s, i ≤ n → I i s → ∀ rc, P (step rc s) ∨ (i < n ∧ ∃ s', I (i + 1) s' ∧ step rc s = rc s')) :
    ∀ (d i : Nat) (s : σ) (k : Nat), n - i ≤ d → i ≤ n → I i s → d < k → P (lp step k s) := by
  intro d
  induction d with
  | zero =>
    intro i s k hd hi hI hk
    obtain ⟨k', rfl⟩ : ∃ k', k = k' + 1 := ⟨k - 1, by omega⟩
    rcases h i s hi hI (lp step k') with h1 | ⟨h1, -⟩
    · exact h1
    · omega
  | succ d ih =>
    intro i s k hd hi hI hk
    obtain ⟨k', rfl⟩ : ∃ k', k = k' + 1 := ⟨k - 1, by omega⟩
    rcases h i s hi hI (lp step k') with h1 | ⟨h1, s', hI', hs⟩
    · exact h1
    · show P (step (lp step k') s)
      rw [hs]
      exact ih (i + 1) s' k' (by omega) h1 hI' (by omega)
theorem lp_go2 {σ α : Type} (step : (σ → Option α) → σ → Option α) (I : Nat → σ → Prop) (n : Nat) (P : Option α → Prop)
    (h : ∀ i s, i ≤ n → I i s → ∀ rc, P (step rc s) ∨ (i < n ∧ ∃ s', I (i + 1) s' ∧ step rc s = rc s')) (s : σ) (h0 : I 0 s) (hn : n < FU) : P (lp step FU s) :=
  lp_inv2 step I n P h n 0 s FU (by omega) (Nat.zero_le n) h0 hn
def sumN (g : Nat → Nat) : Nat → Nat
  | 0 => 0
  | n + 1 => sumN g n + g n
theorem sumN_cong {g h : Nat → Nat} : ∀ {n : Nat}, (∀ k, k < n → g k = h k) → sumN g n = sumN h n
  | 0, _ => rfl
  | n + 1, e => by rw [sumN, sumN, sumN_cong (fun k hk => e k (by omega)), e n (by omega)]
theorem sumN_add (g h : Nat → Nat) : ∀ n, sumN (fun k => g k + h k) n = sumN g n + sumN h n
  | 0 => rfl
  | n + 1 => by rw [sumN, sumN, sumN, sumN_add g h n]; omega
theorem sumN_le {g h : Nat → Nat} : ∀ {n : Nat}, (∀ k, k < n → g k ≤ h k) → sumN g n ≤ sumN h n
  | 0, _ => Nat.le_refl _
  | n + 1, e => by
    have h1 := sumN_le (n := n) (fun k hk => e k (by omega))
    have h2 := e n (by omega)
    rw [sumN, sumN]; omega
theorem sumN_bd {g : Nat → Nat} {M : Nat} : ∀ {n : Nat}, (∀ k, k < n → g k ≤ M) → sumN g n ≤ n * M
  | 0, _ => Nat.zero_le _
  | n + 1, e => by
    have h1 := sumN_bd (n := n) (fun k hk => e k (by omega))
    have h2 := e n (by omega)
    rw [sumN, Nat.succ_mul]; omega
theorem sumN_mem {g : Nat → Nat} : ∀ {n j : Nat}, j < n → g j ≤ sumN g n
  | 0, _, h => absurd h (by omega)
  | n + 1, j, h => by
    rw [sumN]
    by_cases e : j = n
    · subst e; omega
    · have := sumN_mem (g := g) (n := n) (j := j) (by omega); omega
theorem sumN_one (j v : Nat) : ∀ n, sumN (fun k => if j = k then v else 0) n = if j < n then v else 0
  | 0 => rfl
  | n + 1 => by
    rw [sumN, sumN_one j v n]
    by_cases e : j = n
    · rw [if_neg (by omega), if_pos e, if_pos (by omega)]; omega
    · by_cases e2 : j < n
      · rw [if_pos e2, if_neg e, if_pos (by omega)]; rfl
      · rw [if_neg e2, if_neg e, if_neg (by omega)]
theorem sumN_zero {g : Nat → Nat} : ∀ {n : Nat}, sumN g n = 0 ↔ ∀ k, k < n → g k = 0
  | 0 => ⟨fun _ k hk => absurd hk (by omega), fun _ => rfl⟩
  | n + 1 => by
    rw [sumN]
    have ih := sumN_zero (g := g) (n := n)
    constructor
    · intro h k hk
      by_cases e : k = n
      · subst e; omega
      · exact ih.mp (by omega) k (by omega)
    · intro h
      have := ih.mpr (fun k hk => h k (by omega))
      have := h n (by omega)
      omega
theorem sumI_nI (g : Nat → Nat) : ∀ n, sumI (fun k => nI (g k)) n = nI (sumN g n)
  | 0 => rfl
  | n + 1 => by rw [sumI, sumI_nI g n, sumN, nI_add]
/-! ===== what a kind does, by naturals ===== -/
theorem nI_ne {k : Nat} (m : Nat) (x : Int32) (h : k ≠ m) (hx : x = nI m := by rfl) (hk : k < 2 ^ 31 := by omega) (hm : m < 2 ^ 31 := by decide) : ¬ nI k = x := by
  rw [hx]
  exact fun q => h ((nI_eq hk hm).mp q)
def kLeak (k c : Nat) : Nat := if k = 2 then c / 10 else if k = 4 then 2 * (c / 10) else 0
def kKeep (k c : Nat) : Nat := if k = 3 then 0 else if k = 1 then 2 * c / 5 else c / 3
def kHold (k c p : Nat) : Nat := if k = 5 ∨ (k = 6 ∧ c ≤ 100) then (if c < 30 - p then c else 30 - p) else 0
theorem kLeak_le (k c : Nat) : kLeak k c ≤ c := by
  unfold kLeak
  repeat' split
  all_goals omega
theorem kKeep_le (k c : Nat) : kKeep k c ≤ c := by
  unfold kKeep
  repeat' split
  all_goals omega
theorem kHold_le (k c p : Nat) : kHold k c p ≤ c := by
  unfold kHold
  repeat' split
  all_goals omega
theorem kHold_30 (k c : Nat) {p : Nat} (hp : p ≤ 30) : p + kHold k c p ≤ 30 := by
  unfold kHold
  repeat' split
  all_goals omega
theorem tenths_e {k : Nat} (hk : k ≤ 6) : f_X3_tenthsLeaked (nI k) = some (nI (if k = 2 then 1 else if k = 4 then 2 else 0)) := by
  unfold f_X3_tenthsLeaked
  rcases (show k = 0 ∨ k = 1 ∨ k = 2 ∨ k = 3 ∨ k = 4 ∨ k = 5 ∨ k = 6 by omega) with rfl | rfl | rfl | rfl | rfl | rfl | rfl
  · rw [br_f1 (by decide), br_f1 (by decide)]; rfl
  · rw [br_f1 (by decide), br_f1 (by decide)]; rfl
  · rw [br_t1 (by decide)]; rfl
  · rw [br_f1 (by decide), br_f1 (by decide)]; rfl
  · rw [br_f1 (by decide), br_t1 (by decide)]; rfl
  · rw [br_f1 (by decide), br_f1 (by decide)]; rfl
  · rw [br_f1 (by decide), br_f1 (by decide)]; rfl
theorem div10 {c : Nat} (hc : c < 2 ^ 30) : nI c / (10 : Int32) = nI (c / 10) := pk_div (d := 10) (by omega) (by decide) (by decide)
theorem leaks7 {k c : Nat} (hk : k ≤ 6) (hc : c < 2 ^ 30) : f_X3_leaks (nI k) (nI c) = some (nI (kLeak k c)) := by
  unfold f_X3_leaks
  rw [bd_t (tenths_e hk), div10 hc, pk_mul]
  congr 2
  unfold kLeak
  by_cases h2 : k = 2
  · rw [if_pos h2, if_pos h2]; omega
  · rw [if_neg h2, if_neg h2]
    by_cases h4 : k = 4
    · rw [if_pos h4, if_pos h4]
    · rw [if_neg h4, if_neg h4]; omega
theorem keep5 {c : Nat} (hc : c < 2 ^ 29) : (2 : Int32) * nI c / (5 : Int32) = nI (2 * c / 5) := by
  rw [show (2 : Int32) * nI c = nI (2 * c) from pk_mul 2 c]
  exact pk_div (d := 5) (by omega) (by decide) (by decide)
theorem keep3 {c : Nat} (hc : c < 2 ^ 29) : nI c / (3 : Int32) = nI (c / 3) := pk_div (d := 3) (by omega) (by decide) (by decide)
theorem keeps7 {k c : Nat} (hk : k ≤ 6) (hc : c < 2 ^ 29) : f_X3_keeps (nI k) (nI c) = some (nI (kKeep k c)) := by
  unfold f_X3_keeps kKeep
  rw [keep5 hc, keep3 hc]
  by_cases h1 : k = 1
  · rw [br_t1 (by rw [h1]; rfl), if_neg (by omega), if_pos h1]
  · rw [br_f1 (nI_ne 1 1 h1), if_neg h1]
    by_cases h3 : k = 3
    · rw [br_t1 (by rw [h3]; rfl), if_pos h3]; rfl
    · rw [br_f1 (nI_ne 3 3 h3), if_neg h3]
theorem sub30 {p : Nat} (hp : p ≤ 30) : (30 : Int32) - nI p = nI (30 - p) := pk_sub (a := 30) hp
theorem holds7 {k c p : Nat} (hk : k ≤ 6) (hc : c < 2 ^ 29) (hp : p ≤ 30) : f_X3_holds (nI k) (nI c) (nI p) = some (nI (kHold k c p)) := by
  unfold f_X3_holds kHold
  rw [sub30 hp]
  have e : (if nI c < nI (30 - p) then nI c else nI (30 - p)) = nI (if c < 30 - p then c else 30 - p) := by
    by_cases h : c < 30 - p
    · rw [if_pos h, if_pos (nI_lt h (by omega))]
    · rw [if_neg h, if_neg (nI_nlt (by omega) (by omega))]
  rw [e]
  by_cases h5 : k = 5
  · rw [br_t1 (by rw [h5]; rfl), if_pos (Or.inl h5)]
  · rw [br_f1 (nI_ne 5 5 h5)]
    by_cases h6 : k = 6
    · rw [br_t1 (by rw [h6]; rfl)]
      by_cases hh : c ≤ 100
      · rw [br_t1 (show nI c ≤ (100 : Int32) from nI_le (b := 100) hh (by decide)), if_pos (Or.inr ⟨h6, hh⟩)]
      · rw [br_f1 (show ¬ nI c ≤ (100 : Int32) from nI_ge (a := 100) (by omega) (by omega)), if_neg (by omega)]; rfl
    · rw [br_f1 (nI_ne 6 6 h6), if_neg (by omega)]; rfl
/-! ===== an hour, by naturals ===== -/
def Fo.wdP (f : Fo) (i b : Nat) : Nat := sumN (fun o => if 1 ≤ o ∧ f.ab o = b then f.ed o else 0) i
def Fo.wd (f : Fo) (b : Nat) : Nat := f.wdP f.n b
def Fo.lkC (f : Fo) (b c : Nat) : Nat := kLeak (f.kd b) c
def Fo.kpC (f : Fo) (b c : Nat) : Nat := kKeep (f.kd b) (c - f.lkC b c)
def Fo.hdC (f : Fo) (b c : Nat) : Nat := kHold (f.kd b) (c - f.lkC b c - f.kpC b c) (f.po b)
def Fo.goC (f : Fo) (b c : Nat) : Nat := c - f.lkC b c - f.kpC b c - f.hdC b c
def Fo.cm (f : Fo) (b : Nat) : Nat :=
  if h : 1 ≤ b ∧ f.ab b < b then f.goC (f.ab b) (Fo.cm f (f.ab b)) * f.ed b / f.wd (f.ab b) else f.sg
termination_by b
decreasing_by exact h.2
def Fo.lk (f : Fo) (b : Nat) : Nat := f.lkC b (f.cm b)
def Fo.kp (f : Fo) (b : Nat) : Nat := f.kpC b (f.cm b)
def Fo.hd (f : Fo) (b : Nat) : Nat := f.hdC b (f.cm b)
def Fo.go (f : Fo) (b : Nat) : Nat := f.goC b (f.cm b)
/-- what the basins below one get, of the first i -/
def Fo.chP (f : Fo) (i b : Nat) : Nat := sumN (fun o => if 1 ≤ o ∧ f.ab o = b then f.cm o else 0) i
def Fo.off (f : Fo) (b : Nat) : Nat := f.go b - f.chP f.n b
def Fo.cd (f : Fo) (b : Nat) : Nat := if b = 0 then 0 else f.cm b
def Fo.kpS (f : Fo) : Nat := sumN f.kp f.n
def Fo.lkS (f : Fo) : Nat := sumN f.lk f.n
def Fo.roS (f : Fo) : Nat := sumN f.off f.n
def Fo.unS (f : Fo) : Nat := sumN (fun b => if f.wd b = 0 then 0 else f.off b) f.n
/-- all that an hour's flow asks of a fountain -/
def VG (f : Fo) : Prop := f.n ≤ 10 ∧ (∀ b, b < f.n → f.kd b ≤ 6 ∧ 1 ≤ f.ed b ∧ f.ed b ≤ 9 ∧ f.po b ≤ 30 ∧ (1 ≤ b → f.ab b < b)) ∧ f.sg ≤ 99999
theorem VG_of {f : Fo} (h : VF f) : VG f := ⟨h.1, h.2.1, h.2.2.1⟩
theorem goC_le (f : Fo) (b c : Nat) : f.goC b c ≤ c := by unfold Fo.goC; omega
theorem cm_0 (f : Fo) : f.cm 0 = f.sg := by rw [Fo.cm, dif_neg (by omega)]
theorem cm_s {f : Fo} {b : Nat} (h1 : 1 ≤ b) (h : f.ab b < b) : f.cm b = f.go (f.ab b) * f.ed b / f.wd (f.ab b) := by rw [Fo.cm, dif_pos ⟨h1, h⟩]; rfl
theorem wd_ge {f : Fo} {b : Nat} (h1 : 1 ≤ b) (hb : b < f.n) : f.ed b ≤ f.wd (f.ab b) := by
  have h := sumN_mem (g := fun o => if 1 ≤ o ∧ f.ab o = f.ab b then f.ed o else 0) hb
  rw [if_pos ⟨h1, rfl⟩] at h
  exact h
theorem part_le {a e w : Nat} (h : e ≤ w) : a * e / w ≤ a := by
  apply Nat.div_le_of_le_mul
  rw [Nat.mul_comm w a]
  exact Nat.mul_le_mul_left a h
theorem cm_le {f : Fo} (hV : VG f) : ∀ b, b < f.n → f.cm b ≤ f.sg := by
  intro b
  induction b using Nat.strongRecOn with
  | _ b ih =>
    intro hb
    by_cases h0 : b = 0
    · rw [h0, cm_0]; exact Nat.le_refl _
    · have ha := (hV.2.1 b hb).2.2.2.2 (by omega)
      rw [cm_s (by omega) ha]
      have h1 := ih (f.ab b) ha (by omega)
      have h2 : f.go (f.ab b) ≤ f.cm (f.ab b) := goC_le _ _ _
      have h3 := part_le (a := f.go (f.ab b)) (wd_ge (f := f) (b := b) (by omega) hb)
      omega
theorem cm_5 {f : Fo} (hV : VG f) {b : Nat} (hb : b < f.n) : f.cm b ≤ 99999 := Nat.le_trans (cm_le hV b hb) hV.2.2
theorem go_5 {f : Fo} (hV : VG f) {b : Nat} (hb : b < f.n) : f.go b ≤ 99999 := Nat.le_trans (goC_le _ _ _) (cm_5 hV hb)
theorem kp_5 {f : Fo} (hV : VG f) {b : Nat} (hb : b < f.n) : f.kp b ≤ 99999 := by
  have h := cm_5 hV hb
  have h2 : f.kp b ≤ f.cm b - f.lkC b (f.cm b) := kKeep_le _ _
  omega
theorem wd_le {f : Fo} (hV : VG f) : ∀ i b, i ≤ f.n → f.wdP i b ≤ 90 := by
  intro i b hi
  have h : f.wdP i b ≤ i * 9 := by
    refine sumN_bd (fun o ho => ?_)
    have := (hV.2.1 o (by omega)).2.2.1
    split <;> omega
  have := hV.1
  omega
theorem div_add_le (a b w : Nat) : a / w + b / w ≤ (a + b) / w := by
  by_cases hw : w = 0
  · subst hw; rw [Nat.div_zero, Nat.div_zero, Nat.div_zero]; exact Nat.le_refl _
  · rw [Nat.le_div_iff_mul_le (by omega), Nat.add_mul]
    have := Nat.div_mul_le_self a w
    have := Nat.div_mul_le_self b w
    omega
theorem chP_le {f : Fo} (hV : VG f) (b : Nat) : ∀ i, i ≤ f.n → f.chP i b ≤ f.go b * f.wdP i b / f.wd b
  | 0, _ => Nat.zero_le _
  | i + 1, hi => by
    have ih := chP_le hV b i (by omega)
    unfold Fo.chP Fo.wdP at ih ⊢
    rw [sumN, sumN]
    by_cases h : 1 ≤ i ∧ f.ab i = b
    · rw [if_pos h, if_pos h, Nat.mul_add]
      have h2 := div_add_le (f.go b * sumN (fun o => if 1 ≤ o ∧ f.ab o = b then f.ed o else 0) i) (f.go b * f.ed i) (f.wd b)
      have h3 := cm_s h.1 ((hV.2.1 i (by omega)).2.2.2.2 h.1)
      rw [h.2] at h3
      rw [h3]
      omega
    · rw [if_neg h, if_neg h]
      exact ih
theorem ch_le {f : Fo} (hV : VG f) (b : Nat) : f.chP f.n b ≤ f.go b := by
  refine Nat.le_trans (chP_le hV b f.n (Nat.le_refl _)) ?_
  exact part_le (Nat.le_refl _)
/-- the sums of what comes, by the ones above -/
theorem ch_sum {f : Fo} (hV : VG f) : ∀ i, i ≤ f.n → sumN (fun b => f.chP i b) f.n = sumN f.cd i
  | 0, _ => sumN_zero.mpr (fun _ _ => rfl)
  | i + 1, hi => by
    have ih := ch_sum hV i (by omega)
    rw [sumN]
    rw [← ih]
    have e : sumN (fun b => f.chP (i + 1) b) f.n = sumN (fun b => f.chP i b + (if 1 ≤ i ∧ f.ab i = b then f.cm i else 0)) f.n := rfl
    rw [e, sumN_add]
    congr 1
    by_cases h : i = 0
    · subst h
      rw [show f.cd 0 = 0 from rfl]
      exact sumN_zero.mpr (fun k _ => if_neg (by omega))
    · have ha := (hV.2.1 i (by omega)).2.2.2.2 (by omega)
      rw [show f.cd i = f.cm i from if_neg h]
      have e2 := sumN_one (f.ab i) (f.cm i) f.n
      rw [if_pos (by omega)] at e2
      refine Eq.trans ?_ e2
      exact sumN_cong (fun k _ => by
        by_cases q : f.ab i = k
        · rw [if_pos ⟨by omega, q⟩, if_pos q]
        · rw [if_neg (fun c => q c.2), if_neg q])
theorem go_off {f : Fo} (hV : VG f) : sumN f.go f.n = f.roS + sumN f.cd f.n := by
  rw [← ch_sum hV f.n (Nat.le_refl _), Fo.roS, ← sumN_add]
  exact sumN_cong (fun b _ => by have := ch_le hV b; unfold Fo.off; omega)
theorem ch_wd0 {f : Fo} (hV : VG f) {b : Nat} (h : f.wd b = 0) : f.chP f.n b = 0 := by
  have h2 := chP_le hV b f.n (Nat.le_refl _)
  rw [h, Nat.div_zero] at h2
  omega
theorem go_un {f : Fo} (hV : VG f) : sumN (fun b => if f.wd b = 0 then 0 else f.go b) f.n = f.unS + sumN f.cd f.n := by
  rw [← ch_sum hV f.n (Nat.le_refl _), Fo.unS, ← sumN_add]
  refine sumN_cong (fun b _ => ?_)
  by_cases h : f.wd b = 0
  · rw [if_pos h, if_pos h, ch_wd0 hV h]
  · rw [if_neg h, if_neg h]
    have := ch_le hV b
    unfold Fo.off
    omega
