/-! ===== cases: of, now ===== -/
theorem CG_of {f : Fo} {kind above edge pool store spot : Nat → Int32} {basins spring hour z : Int32} (h : CF f kind above edge pool store spot basins spring hour z) : CG f kind above edge pool := fun b hb => ⟨(h.2.2.2.2.1 b hb).1, (h.2.2.2.2.1 b hb).2.1, (h.2.2.2.2.1 b hb).2.2.1, (h.2.2.2.2.1 b hb).2.2.2.1⟩
theorem not_rg {a b : Nat} {x : Int32} (h : ¬ rg a b x) (j : Nat) (h1 : a ≤ j) (h2 : j ≤ b) : ¬ x = nI j := fun e => h ⟨j, h1, h2, e⟩
