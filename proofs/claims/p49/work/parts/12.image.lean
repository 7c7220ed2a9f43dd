/-! ===== cases: image, undo; copies of a fountain ===== -/
theorem MF_cong {f : Fo} {d c : Nat → Int32} (hn : f.n ≤ 10) (h : MF f d) (hc : ∀ k, k < 64 → c k = d k) : MF f c := by
  obtain ⟨h0, h1, h2, h3, h4, h5⟩ := h
  refine ⟨(hc 0 (by decide)).trans h0, (hc 1 (by decide)).trans h1, (hc 2 (by decide)).trans h2, (hc 3 (by decide)).trans h3, fun b hb => ?_, fun k hk => (hc _ (by omega)).trans (h5 k hk)⟩
  obtain ⟨a1, a2, a3, a4, a5⟩ := h4 b hb
  exact ⟨(hc _ (by omega)).trans a1, (hc _ (by omega)).trans a2, (hc _ (by omega)).trans a3, (hc _ (by omega)).trans a4, (hc _ (by omega)).trans a5⟩
theorem cpy10 (g h : Nat → Int32) {j : Nat} (hj : j < 10) : va_cpy g h (0 : Int32).toNatClampNeg (0 : Int32).toNatClampNeg (10 : Int32).toNatClampNeg j = g j := by
  have e : va_cpy g h 0 0 10 j = g (0 + (j - 0)) := pk_cpy_in (Nat.zero_le j) (by omega)
  rw [Nat.zero_add, Nat.sub_zero] at e
  exact e
theorem CF_cpy {f : Fo} (hn : f.n ≤ 10) {kind above edge pool store spot : Nat → Int32} {basins spring hour z : Int32} (k2 a2 e2 p2 s2 t2 : Nat → Int32) (h : CF f kind above edge pool store spot basins spring hour z) :
    CF f (va_cpy kind k2 (0 : Int32).toNatClampNeg (0 : Int32).toNatClampNeg (10 : Int32).toNatClampNeg) (va_cpy above a2 (0 : Int32).toNatClampNeg (0 : Int32).toNatClampNeg (10 : Int32).toNatClampNeg) (va_cpy edge e2 (0 : Int32).toNatClampNeg (0 : Int32).toNatClampNeg (10 : Int32).toNatClampNeg) (va_cpy pool p2 (0 : Int32).toNatClampNeg (0 : Int32).toNatClampNeg (10 : Int32).toNatClampNeg) (va_cpy store s2 (0 : Int32).toNatClampNeg (0 : Int32).toNatClampNeg (10 : Int32).toNatClampNeg) (va_cpy spot t2 (0 : Int32).toNatClampNeg (0 : Int32).toNatClampNeg (10 : Int32).toNatClampNeg) basins spring hour z := by
  obtain ⟨h0, h1, h2, h3, h4, h5⟩ := h
  refine ⟨h0, h1, h2, h3, fun b hb => ?_, fun k hk => (cpy10 _ _ hk).trans (h5 k hk)⟩
  obtain ⟨a1, a2', a3, a4, a5⟩ := h4 b hb
  have hb' : b < 10 := by omega
  exact ⟨(cpy10 _ _ hb').trans a1, (cpy10 _ _ hb').trans a2', (cpy10 _ _ hb').trans a3, (cpy10 _ _ hb').trans a4, (cpy10 _ _ hb').trans a5⟩
