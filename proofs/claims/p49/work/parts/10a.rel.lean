/-! ===== what a fountain is, by naturals; how class and reference hold one ===== -/
/-- how many, kind, above, edge, pool, store, spot (0: nothing, else a basin and 1), spring, hour, z -/
abbrev Fo : Type := Nat × (Nat → Nat) × (Nat → Nat) × (Nat → Nat) × (Nat → Nat) × (Nat → Int32) × (Nat → Nat) × Nat × Nat × Int32
def Fo.n (f : Fo) : Nat := f.1
def Fo.kd (f : Fo) : Nat → Nat := f.2.1
def Fo.ab (f : Fo) : Nat → Nat := f.2.2.1
def Fo.ed (f : Fo) : Nat → Nat := f.2.2.2.1
def Fo.po (f : Fo) : Nat → Nat := f.2.2.2.2.1
def Fo.st (f : Fo) : Nat → Int32 := f.2.2.2.2.2.1
def Fo.sp (f : Fo) : Nat → Nat := f.2.2.2.2.2.2.1
def Fo.sg (f : Fo) : Nat := f.2.2.2.2.2.2.2.1
def Fo.hr (f : Fo) : Nat := f.2.2.2.2.2.2.2.2.1
def Fo.z (f : Fo) : Int32 := f.2.2.2.2.2.2.2.2.2
/-- above, as a number: BASIN 0 is below nothing -/
def abI (a : Nat → Nat) (b : Nat) : Int32 := if b = 0 then -1 else nI (a b)
/-- a fountain as it may be -/
def VF (f : Fo) : Prop := f.n ≤ 10 ∧ (∀ b, b < f.n → f.kd b ≤ 6 ∧ 1 ≤ f.ed b ∧ f.ed b ≤ 9 ∧ f.po b ≤ 30 ∧ (1 ≤ b → f.ab b < b)) ∧ f.sg ≤ 99999 ∧ f.hr ≤ 9999 ∧ ∀ k, k < 10 → f.sp k ≤ f.n
/-- the class holds it -/
def CF (f : Fo) (kind above edge pool store spot : Nat → Int32) (basins spring hour z : Int32) : Prop :=
  basins = nI f.n ∧ spring = nI f.sg ∧ hour = nI f.hr ∧ z = f.z ∧ (∀ b, b < f.n → kind b = nI (f.kd b) ∧ above b = abI f.ab b ∧ edge b = nI (f.ed b) ∧ pool b = nI (f.po b) ∧ store b = f.st b) ∧ ∀ k, k < 10 → spot k = nI (f.sp k) - 1
/-- the reference holds it -/
def MF (f : Fo) (d : Nat → Int32) : Prop :=
  d 0 = nI f.n ∧ d 1 = nI f.hr ∧ d 2 = f.z ∧ d 3 = nI f.sg ∧ (∀ b, b < f.n → d (4 + 5 * b) = nI (f.kd b) ∧ d (4 + 5 * b + 1) = abI f.ab b ∧ d (4 + 5 * b + 2) = nI (f.ed b) ∧ d (4 + 5 * b + 3) = nI (f.po b) ∧ d (4 + 5 * b + 4) = f.st b) ∧ ∀ k, k < 10 → d (54 + k) = nI (f.sp k)
def RF (kind above edge pool store spot : Nat → Int32) (basins spring hour z : Int32) (d : Nat → Int32) : Prop := ∃ f : Fo, VF f ∧ CF f kind above edge pool store spot basins spring hour z ∧ MF f d
def RI (pictured : Int32) (kind above edge pool store spot : Nat → Int32) (basins spring hour z : Int32) (isKept : Int32) (kept : Nat → Int32) : Prop := (pictured = 0 ∧ isKept = 0) ∨ (pictured = 1 ∧ isKept = 1 ∧ RF kind above edge pool store spot basins spring hour z kept)
def RT (told found : Nat → Int32) : Prop := ∀ k, k < 7 → told k = found k
def RP (bytes : Nat → Int32) (size : Int32) (tape : Nat → Int32) (taped : Int32) : Prop := ∃ n, n ≤ 120 ∧ size = nI n ∧ taped = nI n ∧ ∀ k, k < n → ∃ b, b < 256 ∧ bytes k = nI b ∧ tape k = (nI b).toInt8.toInt32
def RS (bits size : Nat → Int32) (numbers : Nat → Nat → Int32) (bitsOf sizeOf number : Nat → Int32) : Prop := ∀ t, t < 4 → bits t = bitsOf t ∧ (bits t = 0 ∨ bits t = 8 ∨ bits t = 16 ∨ bits t = 32) ∧ (∃ n, n ≤ 40 ∧ size t = nI n ∧ sizeOf t = nI n) ∧ ∀ k, k < 40 → numbers t k = number (40 * t + k)
