/-! ===== pure: changes of a fountain, on both sides ===== -/
def fset {α : Type} (g : Nat → α) (b : Nat) (v : α) : Nat → α := fun j => if j = b then v else g j
theorem fset_s {α : Type} {g : Nat → α} {b : Nat} {v : α} : fset g b v b = v := if_pos rfl
theorem fset_n {α : Type} {g : Nat → α} {b j : Nat} {v : α} (h : j ≠ b) : fset g b v j = g j := if_neg h
def Fo.setZ (f : Fo) (z : Int32) : Fo := (f.n, f.kd, f.ab, f.ed, f.po, f.st, f.sp, f.sg, f.hr, z)
def Fo.setSg (f : Fo) (v : Nat) : Fo := (f.n, f.kd, f.ab, f.ed, f.po, f.st, f.sp, v, f.hr, f.z)
def Fo.setKd (f : Fo) (b v : Nat) : Fo := (f.n, fset f.kd b v, f.ab, f.ed, f.po, f.st, f.sp, f.sg, f.hr, f.z)
def Fo.setAb (f : Fo) (b v : Nat) : Fo := (f.n, f.kd, fset f.ab b v, f.ed, f.po, f.st, f.sp, f.sg, f.hr, f.z)
def Fo.setEd (f : Fo) (b v : Nat) : Fo := (f.n, f.kd, f.ab, fset f.ed b v, f.po, f.st, f.sp, f.sg, f.hr, f.z)
def Fo.setPo (f : Fo) (b v : Nat) : Fo := (f.n, f.kd, f.ab, f.ed, fset f.po b v, f.st, f.sp, f.sg, f.hr, f.z)
def Fo.setSt (f : Fo) (b : Nat) (v : Int32) : Fo := (f.n, f.kd, f.ab, f.ed, f.po, fset f.st b v, f.sp, f.sg, f.hr, f.z)
def Fo.setSp (f : Fo) (k v : Nat) : Fo := (f.n, f.kd, f.ab, f.ed, f.po, f.st, fset f.sp k v, f.sg, f.hr, f.z)
section FO
variable {f : Fo} {kind above edge pool store spot d : Nat → Int32} {basins spring hour z : Int32}
theorem MF_Z (h : MF f d) (v : Int32) : MF (f.setZ v) (upd d 2 v) := by
  obtain ⟨h0, h1, h2, h3, h4, h5⟩ := h
  refine ⟨(pk_un (by decide)).trans h0, (pk_un (by decide)).trans h1, pk_us, (pk_un (by decide)).trans h3, fun b hb => ?_, fun k hk => (pk_un (by omega)).trans (h5 k hk)⟩
  obtain ⟨a1, a2, a3, a4, a5⟩ := h4 b hb
  exact ⟨(pk_un (by omega)).trans a1, (pk_un (by omega)).trans a2, (pk_un (by omega)).trans a3, (pk_un (by omega)).trans a4, (pk_un (by omega)).trans a5⟩
theorem MF_Sg (h : MF f d) (v : Nat) : MF (f.setSg v) (upd d 3 (nI v)) := by
  obtain ⟨h0, h1, h2, h3, h4, h5⟩ := h
  refine ⟨(pk_un (by decide)).trans h0, (pk_un (by decide)).trans h1, (pk_un (by decide)).trans h2, pk_us, fun b hb => ?_, fun k hk => (pk_un (by omega)).trans (h5 k hk)⟩
  obtain ⟨a1, a2, a3, a4, a5⟩ := h4 b hb
  exact ⟨(pk_un (by omega)).trans a1, (pk_un (by omega)).trans a2, (pk_un (by omega)).trans a3, (pk_un (by omega)).trans a4, (pk_un (by omega)).trans a5⟩
theorem MF_Kd (h : MF f d) (hn : f.n ≤ 10) {b : Nat} (hb : b < f.n) (v : Nat) : MF (f.setKd b v) (upd d (4 + 5 * b) (nI v)) := by
  obtain ⟨h0, h1, h2, h3, h4, h5⟩ := h
  refine ⟨(pk_un (by omega)).trans h0, (pk_un (by omega)).trans h1, (pk_un (by omega)).trans h2, (pk_un (by omega)).trans h3, fun j hj => ?_, fun k hk => (pk_un (by omega)).trans (h5 k hk)⟩
  obtain ⟨a1, a2, a3, a4, a5⟩ := h4 j hj
  refine ⟨?_, (pk_un (by omega)).trans a2, (pk_un (by omega)).trans a3, (pk_un (by omega)).trans a4, (pk_un (by omega)).trans a5⟩
  show _ = nI (fset f.kd b v j)
  by_cases e : j = b
  · rw [e, pk_us, fset_s]
  · rw [pk_un (by omega), fset_n e, a1]
theorem MF_Ab (h : MF f d) (hn : f.n ≤ 10) {b : Nat} (hb : b < f.n) (h0b : b ≠ 0) (v : Nat) : MF (f.setAb b v) (upd d (4 + 5 * b + 1) (nI v)) := by
  obtain ⟨h0, h1, h2, h3, h4, h5⟩ := h
  refine ⟨(pk_un (by omega)).trans h0, (pk_un (by omega)).trans h1, (pk_un (by omega)).trans h2, (pk_un (by omega)).trans h3, fun j hj => ?_, fun k hk => (pk_un (by omega)).trans (h5 k hk)⟩
  obtain ⟨a1, a2, a3, a4, a5⟩ := h4 j hj
  refine ⟨(pk_un (by omega)).trans a1, ?_, (pk_un (by omega)).trans a3, (pk_un (by omega)).trans a4, (pk_un (by omega)).trans a5⟩
  show _ = abI (fset f.ab b v) j
  by_cases e : j = b
  · rw [e, pk_us, abI, if_neg h0b, fset_s]
  · rw [pk_un (by omega), a2]
    unfold abI
    rw [fset_n e]
theorem MF_Ed (h : MF f d) (hn : f.n ≤ 10) {b : Nat} (hb : b < f.n) (v : Nat) : MF (f.setEd b v) (upd d (4 + 5 * b + 2) (nI v)) := by
  obtain ⟨h0, h1, h2, h3, h4, h5⟩ := h
  refine ⟨(pk_un (by omega)).trans h0, (pk_un (by omega)).trans h1, (pk_un (by omega)).trans h2, (pk_un (by omega)).trans h3, fun j hj => ?_, fun k hk => (pk_un (by omega)).trans (h5 k hk)⟩
  obtain ⟨a1, a2, a3, a4, a5⟩ := h4 j hj
  refine ⟨(pk_un (by omega)).trans a1, (pk_un (by omega)).trans a2, ?_, (pk_un (by omega)).trans a4, (pk_un (by omega)).trans a5⟩
  show _ = nI (fset f.ed b v j)
  by_cases e : j = b
  · rw [e, pk_us, fset_s]
  · rw [pk_un (by omega), fset_n e, a3]
theorem MF_Po (h : MF f d) (hn : f.n ≤ 10) {b : Nat} (hb : b < f.n) (v : Nat) : MF (f.setPo b v) (upd d (4 + 5 * b + 3) (nI v)) := by
  obtain ⟨h0, h1, h2, h3, h4, h5⟩ := h
  refine ⟨(pk_un (by omega)).trans h0, (pk_un (by omega)).trans h1, (pk_un (by omega)).trans h2, (pk_un (by omega)).trans h3, fun j hj => ?_, fun k hk => (pk_un (by omega)).trans (h5 k hk)⟩
  obtain ⟨a1, a2, a3, a4, a5⟩ := h4 j hj
  refine ⟨(pk_un (by omega)).trans a1, (pk_un (by omega)).trans a2, (pk_un (by omega)).trans a3, ?_, (pk_un (by omega)).trans a5⟩
  show _ = nI (fset f.po b v j)
  by_cases e : j = b
  · rw [e, pk_us, fset_s]
  · rw [pk_un (by omega), fset_n e, a4]
theorem MF_St (h : MF f d) (hn : f.n ≤ 10) {b : Nat} (hb : b < f.n) (v : Int32) : MF (f.setSt b v) (upd d (4 + 5 * b + 4) v) := by
  obtain ⟨h0, h1, h2, h3, h4, h5⟩ := h
  refine ⟨(pk_un (by omega)).trans h0, (pk_un (by omega)).trans h1, (pk_un (by omega)).trans h2, (pk_un (by omega)).trans h3, fun j hj => ?_, fun k hk => (pk_un (by omega)).trans (h5 k hk)⟩
  obtain ⟨a1, a2, a3, a4, a5⟩ := h4 j hj
  refine ⟨(pk_un (by omega)).trans a1, (pk_un (by omega)).trans a2, (pk_un (by omega)).trans a3, (pk_un (by omega)).trans a4, ?_⟩
  show _ = fset f.st b v j
  by_cases e : j = b
  · rw [e, pk_us, fset_s]
  · rw [pk_un (by omega), fset_n e, a5]
theorem MF_Sp (h : MF f d) (hn : f.n ≤ 10) {k : Nat} (hk : k < 10) (v : Nat) : MF (f.setSp k v) (upd d (54 + k) (nI v)) := by
  obtain ⟨h0, h1, h2, h3, h4, h5⟩ := h
  refine ⟨(pk_un (by omega)).trans h0, (pk_un (by omega)).trans h1, (pk_un (by omega)).trans h2, (pk_un (by omega)).trans h3, fun b hb => ?_, fun j hj => ?_⟩
  · have hb' : b < f.n := hb
    obtain ⟨a1, a2, a3, a4, a5⟩ := h4 b hb
    exact ⟨(pk_un (by omega)).trans a1, (pk_un (by omega)).trans a2, (pk_un (by omega)).trans a3, (pk_un (by omega)).trans a4, (pk_un (by omega)).trans a5⟩
  · show _ = nI (fset f.sp k v j)
    by_cases e : j = k
    · rw [e, pk_us, fset_s]
    · rw [pk_un (by omega), fset_n e, h5 j hj]
theorem CF_Kd (h : CF f kind above edge pool store spot basins spring hour z) (b v : Nat) : CF (f.setKd b v) (upd kind b (nI v)) above edge pool store spot basins spring hour z := by
  obtain ⟨h0, h1, h2, h3, h4, h5⟩ := h
  refine ⟨h0, h1, h2, h3, fun j hj => ?_, h5⟩
  obtain ⟨a1, a2, a3, a4, a5⟩ := h4 j hj
  refine ⟨?_, a2, a3, a4, a5⟩
  show _ = nI (fset f.kd b v j)
  by_cases e : j = b
  · rw [e, pk_us, fset_s]
  · rw [pk_un e, fset_n e, a1]
theorem CF_Ab (h : CF f kind above edge pool store spot basins spring hour z) {b : Nat} (h0b : b ≠ 0) (v : Nat) : CF (f.setAb b v) kind (upd above b (nI v)) edge pool store spot basins spring hour z := by
  obtain ⟨h0, h1, h2, h3, h4, h5⟩ := h
  refine ⟨h0, h1, h2, h3, fun j hj => ?_, h5⟩
  obtain ⟨a1, a2, a3, a4, a5⟩ := h4 j hj
  refine ⟨a1, ?_, a3, a4, a5⟩
  show _ = abI (fset f.ab b v) j
  by_cases e : j = b
  · rw [e, pk_us, abI, if_neg h0b, fset_s]
  · rw [pk_un e, a2]
    unfold abI
    rw [fset_n e]
theorem CF_Ed (h : CF f kind above edge pool store spot basins spring hour z) (b v : Nat) : CF (f.setEd b v) kind above (upd edge b (nI v)) pool store spot basins spring hour z := by
  obtain ⟨h0, h1, h2, h3, h4, h5⟩ := h
  refine ⟨h0, h1, h2, h3, fun j hj => ?_, h5⟩
  obtain ⟨a1, a2, a3, a4, a5⟩ := h4 j hj
  refine ⟨a1, a2, ?_, a4, a5⟩
  show _ = nI (fset f.ed b v j)
  by_cases e : j = b
  · rw [e, pk_us, fset_s]
  · rw [pk_un e, fset_n e, a3]
theorem CF_Po (h : CF f kind above edge pool store spot basins spring hour z) (b v : Nat) : CF (f.setPo b v) kind above edge (upd pool b (nI v)) store spot basins spring hour z := by
  obtain ⟨h0, h1, h2, h3, h4, h5⟩ := h
  refine ⟨h0, h1, h2, h3, fun j hj => ?_, h5⟩
  obtain ⟨a1, a2, a3, a4, a5⟩ := h4 j hj
  refine ⟨a1, a2, a3, ?_, a5⟩
  show _ = nI (fset f.po b v j)
  by_cases e : j = b
  · rw [e, pk_us, fset_s]
  · rw [pk_un e, fset_n e, a4]
theorem CF_St (h : CF f kind above edge pool store spot basins spring hour z) (b : Nat) (v : Int32) : CF (f.setSt b v) kind above edge pool (upd store b v) spot basins spring hour z := by
  obtain ⟨h0, h1, h2, h3, h4, h5⟩ := h
  refine ⟨h0, h1, h2, h3, fun j hj => ?_, h5⟩
  obtain ⟨a1, a2, a3, a4, a5⟩ := h4 j hj
  refine ⟨a1, a2, a3, a4, ?_⟩
  show _ = fset f.st b v j
  by_cases e : j = b
  · rw [e, pk_us, fset_s]
  · rw [pk_un e, fset_n e, a5]
theorem CF_Sp (h : CF f kind above edge pool store spot basins spring hour z) (k v : Nat) {x : Int32} (hx : x = nI v - 1) : CF (f.setSp k v) kind above edge pool store (upd spot k x) basins spring hour z := by
  obtain ⟨h0, h1, h2, h3, h4, h5⟩ := h
  refine ⟨h0, h1, h2, h3, h4, fun j hj => ?_⟩
  show _ = nI (fset f.sp k v j) - 1
  by_cases e : j = k
  · rw [e, pk_us, fset_s, hx]
  · rw [pk_un e, fset_n e, h5 j hj]
theorem VF_Kd (h : VF f) (b : Nat) {v : Nat} (hv : v ≤ 6) : VF (f.setKd b v) := by
  obtain ⟨h0, h1, h2, h3, h4⟩ := h
  refine ⟨h0, fun j hj => ⟨?_, (h1 j hj).2⟩, h2, h3, h4⟩
  show fset f.kd b v j ≤ 6
  by_cases e : j = b
  · rw [e, fset_s]; exact hv
  · rw [fset_n e]; exact (h1 j hj).1
theorem VF_Ab (h : VF f) {b : Nat} {v : Nat} (hv : v < b) : VF (f.setAb b v) := by
  obtain ⟨h0, h1, h2, h3, h4⟩ := h
  refine ⟨h0, fun j hj => ⟨(h1 j hj).1, (h1 j hj).2.1, (h1 j hj).2.2.1, (h1 j hj).2.2.2.1, fun hj1 => ?_⟩, h2, h3, h4⟩
  show fset f.ab b v j < j
  by_cases e : j = b
  · rw [e, fset_s]; exact hv
  · rw [fset_n e]; exact (h1 j hj).2.2.2.2 hj1
theorem VF_Ed (h : VF f) (b : Nat) {v : Nat} (h1v : 1 ≤ v) (hv : v ≤ 9) : VF (f.setEd b v) := by
  obtain ⟨h0, h1, h2, h3, h4⟩ := h
  refine ⟨h0, fun j hj => ⟨(h1 j hj).1, ?_, ?_, (h1 j hj).2.2.2⟩, h2, h3, h4⟩
  · show 1 ≤ fset f.ed b v j
    by_cases e : j = b
    · rw [e, fset_s]; exact h1v
    · rw [fset_n e]; exact (h1 j hj).2.1
  · show fset f.ed b v j ≤ 9
    by_cases e : j = b
    · rw [e, fset_s]; exact hv
    · rw [fset_n e]; exact (h1 j hj).2.2.1
theorem VF_Po (h : VF f) (b : Nat) {v : Nat} (hv : v ≤ 30) : VF (f.setPo b v) := by
  obtain ⟨h0, h1, h2, h3, h4⟩ := h
  refine ⟨h0, fun j hj => ⟨(h1 j hj).1, (h1 j hj).2.1, (h1 j hj).2.2.1, ?_, (h1 j hj).2.2.2.2⟩, h2, h3, h4⟩
  show fset f.po b v j ≤ 30
  by_cases e : j = b
  · rw [e, fset_s]; exact hv
  · rw [fset_n e]; exact (h1 j hj).2.2.2.1
theorem VF_Sp (h : VF f) (k : Nat) {v : Nat} (hv : v ≤ f.n) : VF (f.setSp k v) := by
  obtain ⟨h0, h1, h2, h3, h4⟩ := h
  refine ⟨h0, h1, h2, h3, fun j hj => ?_⟩
  show fset f.sp k v j ≤ f.n
  by_cases e : j = k
  · rw [e, fset_s]; exact hv
  · rw [fset_n e]; exact h4 j hj
end FO
