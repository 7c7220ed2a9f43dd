/-! ===== cases: change ===== -/
theorem put_t {a b j : Nat} (hj : j < 10) (v : Int32) {A B : Int32} (row told : Nat → Int32) (hA : A = nI a) (hB : B = nI b) (h : rg a b v) (ha : a < 2 ^ 31) (hb : b < 2 ^ 31) : f_X7_put (nI j) v A B row told = some (row j, upd row j v, told) := by
  subst hA hB
  unfold f_X7_put
  have hv : vp_in (nI j) 10 := vp_in_nI hj (by decide)
  rw [bd_t (within_n hb ha v), br_kI, br_t1 h, gd_t hv, nm_q, gd_t hv, nI_clamp (by omega)]
theorem put_f {a b j : Nat} (v : Int32) {A B : Int32} (row told : Nat → Int32) (hA : A = nI a) (hB : B = nI b) (h : ¬ rg a b v) (ha : a < 2 ^ 31) (hb : b < 2 ^ 31) : f_X7_put (nI j) v A B row told = some ((-1000001 : Int32), row, upd told 0 (told 0 + 1)) := by
  subst hA hB
  unfold f_X7_put
  rw [bd_t (within_n hb ha v), br_kI, br_f1 h, bd_t (tell0 _)]
theorem br_id {α : Type} {p : Prop} (x : Option α) : br p x x = x := by
  by_cases h : p
  · exact br_t1 h
  · exact br_f1 h
