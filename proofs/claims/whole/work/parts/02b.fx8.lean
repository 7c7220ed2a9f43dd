/-! ===== the functions of the reference ===== -/
noncomputable def f_X8_finds (x1 : Int32) (cM_found : Nat → Int32) : Option (Int32 × (Nat → Int32)) :=
  gd (vp_in x1 7) (gd (vp_in x1 7) (some (((-1000001 : Int32) - x1), (upd cM_found x1.toNatClampNeg ((cM_found x1.toNatClampNeg) + (1 : Int32))))))
noncomputable def f_X8_in (x0 : Int64) (x2 : Int64) (x4 : Int64) : Option (Int32) :=
  br ((lg_cmp x0 x2) < 0)
  (some (0 : Int32))
  (br (0 < (lg_cmp x0 x4))
  (some (0 : Int32))
  (some (1 : Int32)))
noncomputable def f_X8_copies_L2_b (cr0 : Nat → Int32) (rc2 : (Int32 × (Nat → Int32)) → Option ((Nat → Int32))) (y2 : Int32) (cr1 : Nat → Int32) : Option ((Nat → Int32)) :=
  br ((64 : Int32) ≤ y2)
  (some cr1)
  (gd (vp_in y2 64) (gd (vp_in y2 64) (rc2 ((y2 + 1), (upd cr1 y2.toNatClampNeg (cr0 y2.toNatClampNeg))))))
noncomputable def f_X8_copies_L2 (cr0 : Nat → Int32) (k : Nat) : (Int32 × (Nat → Int32)) → Option ((Nat → Int32)) := lp (fun rc v => f_X8_copies_L2_b cr0 rc v.1 v.2) k
theorem f_X8_copies_L2_s (cr0 : Nat → Int32) (k : Nat) (y2 : Int32) (cr1 : Nat → Int32) : f_X8_copies_L2 cr0 (k + 1) (y2, cr1) = f_X8_copies_L2_b cr0 (f_X8_copies_L2 cr0 k) y2 cr1 := rfl
theorem f_X8_copies_L2_0 (cr0 : Nat → Int32) (v : Int32 × (Nat → Int32)) : f_X8_copies_L2 cr0 0 v = none := rfl
noncomputable def f_X8_copies (cr0 : Nat → Int32) (cr1 : Nat → Int32) : Option ((Nat → Int32)) :=
  f_X8_copies_L2 cr0 FU ((0 : Int32), cr1)
noncomputable def f_X8_isBasin (x1 : Int32) (cM_d : Nat → Int32) : Option (Int32) :=
  bd (f_X8_in x1.toInt64 (0 : Int64) (((cM_d (0 : Int32).toNatClampNeg) - (1 : Int32)).toInt64)) fun u1 =>
  gd (u1 = 0 ∨ u1 = 1) (some u1)
noncomputable def f_X8_its (x1 : Int32) (x2 : Int32) (cM_d : Nat → Int32) : Option (Int32) :=
  gd (vp_in (((4 : Int32) + ((5 : Int32) * x1)) + x2) 64) (some (cM_d (((4 : Int32) + ((5 : Int32) * x1)) + x2).toNatClampNeg))
noncomputable def f_X8_sets (x1 : Int32) (x2 : Int32) (x3 : Int32) (cM_d : Nat → Int32) : Option ((Nat → Int32)) :=
  gd (vp_in (((4 : Int32) + ((5 : Int32) * x1)) + x2) 64) (some (upd cM_d (((4 : Int32) + ((5 : Int32) * x1)) + x2).toNatClampNeg x3))
noncomputable def f_X8_leaks (x0 : Int32) (x1 : Int32) : Option (Int32) :=
  br (x0 = (2 : Int32))
  (some (x1 / (10 : Int32)))
  (br (x0 = (4 : Int32))
  (some ((2 : Int32) * (x1 / (10 : Int32))))
  (some (0 : Int32)))
noncomputable def f_X8_keeps (x0 : Int32) (x1 : Int32) : Option (Int32) :=
  br (x0 = (3 : Int32))
  (some (0 : Int32))
  (br (x0 = (1 : Int32))
  (some (((2 : Int32) * x1) / (5 : Int32)))
  (some (x1 / (3 : Int32))))
noncomputable def f_X8_holds_J25 (x0 : Int32) (x1 : Int32) (x2 : Int32) : Option (Int32) :=
  br (((30 : Int32) - x2) ≤ x1)
  (some ((30 : Int32) - x2))
  (some x1)
noncomputable def f_X8_holds (x0 : Int32) (x1 : Int32) (x2 : Int32) : Option (Int32) :=
  br (x0 = (5 : Int32))
  (br (x0 = (6 : Int32))
  (br (x1 ≤ (100 : Int32))
  (f_X8_holds_J25 x0 x1 x2)
  (some (0 : Int32)))
  (f_X8_holds_J25 x0 x1 x2))
  (br (x0 = (6 : Int32))
  (br (x0 = (6 : Int32))
  (br (x1 ≤ (100 : Int32))
  (f_X8_holds_J25 x0 x1 x2)
  (some (0 : Int32)))
  (f_X8_holds_J25 x0 x1 x2))
  (some (0 : Int32)))
noncomputable def f_X8_edgesBelow_L6_b (x1 : Int32) (cM_d : Nat → Int32) (rc6 : (Int32 × Int32) → Option (Int32)) (y2 : Int32) (y3 : Int32) : Option (Int32) :=
  br ((cM_d (0 : Int32).toNatClampNeg) ≤ y3)
  (some y2)
  (bd (f_X8_its y3 (1 : Int32) cM_d) fun u3 =>
  br (u3 = x1)
  (bd (f_X8_its y3 (2 : Int32) cM_d) fun u6 =>
  nm (y2 + u6) fun z7 =>
  rc6 (z7, (y3 + 1)))
  (nm (y2 + (0 : Int32)) fun z5 =>
  rc6 (z5, (y3 + 1))))
noncomputable def f_X8_edgesBelow_L6 (x1 : Int32) (cM_d : Nat → Int32) (k : Nat) : (Int32 × Int32) → Option (Int32) := lp (fun rc v => f_X8_edgesBelow_L6_b x1 cM_d rc v.1 v.2) k
theorem f_X8_edgesBelow_L6_s (x1 : Int32) (cM_d : Nat → Int32) (k : Nat) (y2 : Int32) (y3 : Int32) : f_X8_edgesBelow_L6 x1 cM_d (k + 1) (y2, y3) = f_X8_edgesBelow_L6_b x1 cM_d (f_X8_edgesBelow_L6 x1 cM_d k) y2 y3 := rfl
theorem f_X8_edgesBelow_L6_0 (x1 : Int32) (cM_d : Nat → Int32) (v : Int32 × Int32) : f_X8_edgesBelow_L6 x1 cM_d 0 v = none := rfl
noncomputable def f_X8_edgesBelow (x1 : Int32) (cM_d : Nat → Int32) : Option (Int32) :=
  nm (x1 + (1 : Int32)) fun z1 =>
  f_X8_edgesBelow_L6 x1 cM_d FU ((0 : Int32), z1)
noncomputable def f_X8_look_J218 (cM_d : Nat → Int32) (rc51 : (Int32 × Int32 × Int32 × Int32 × (Nat → Int32) × (Nat → Int32) × (Nat → Int32) × (Nat → Int32)) → Option (Int32 × Int32 × Int32 × (Nat → Int32) × (Nat → Int32) × (Nat → Int32) × (Nat → Int32))) (y1 : Int32) (y4 : Int32) (y8 : Int32) (vM_leaked : Int32) (vM_keptAll : Int32) (vM_offAll : Int32) (cM_came : Nat → Int32) (cM_got : Nat → Int32) (cM_held : Nat → Int32) (cM_off : Nat → Int32) : Option (Int32 × Int32 × Int32 × (Nat → Int32) × (Nat → Int32) × (Nat → Int32) × (Nat → Int32)) :=
  gd (vp_in y1 10) (gd (vp_in y1 10) (rc51 ((y1 + 1), (vM_leaked + y4), (vM_keptAll + (cM_got y1.toNatClampNeg)), (vM_offAll + y8), cM_came, cM_got, cM_held, (upd cM_off y1.toNatClampNeg y8))))
noncomputable def f_X8_look_L154_b (cM_d : Nat → Int32) (rc51 : (Int32 × Int32 × Int32 × Int32 × (Nat → Int32) × (Nat → Int32) × (Nat → Int32) × (Nat → Int32)) → Option (Int32 × Int32 × Int32 × (Nat → Int32) × (Nat → Int32) × (Nat → Int32) × (Nat → Int32))) (rc154 : (Int32 × Int32 × Int32 × Int32 × Int32 × Int32 × Int32 × Int32 × Int32 × (Nat → Int32) × (Nat → Int32) × (Nat → Int32) × (Nat → Int32)) → Option (Int32 × Int32 × Int32 × (Nat → Int32) × (Nat → Int32) × (Nat → Int32) × (Nat → Int32))) (y1 : Int32) (y4 : Int32) (y6 : Int32) (y7 : Int32) (y8 : Int32) (y9 : Int32) (vM_leaked : Int32) (vM_keptAll : Int32) (vM_offAll : Int32) (cM_came : Nat → Int32) (cM_got : Nat → Int32) (cM_held : Nat → Int32) (cM_off : Nat → Int32) : Option (Int32 × Int32 × Int32 × (Nat → Int32) × (Nat → Int32) × (Nat → Int32) × (Nat → Int32)) :=
  br ((cM_d (0 : Int32).toNatClampNeg) ≤ y9)
  (f_X8_look_J218 cM_d rc51 y1 y4 y8 vM_leaked vM_keptAll vM_offAll cM_came cM_got cM_held cM_off)
  (bd (f_X8_its y9 (1 : Int32) cM_d) fun u21 =>
  br (u21 = y1)
  (bd (f_X8_its y9 (2 : Int32) cM_d) fun u23 =>
  gd (¬ y7.toInt64 = 0) (gd (vp_in y9 10) (gd (vp_in y9 10) (nm (y8 - ((upd cM_came y9.toNatClampNeg (((y6.toInt64 * u23.toInt64) / y7.toInt64).toInt32)) y9.toNatClampNeg)) fun z27 =>
  rc154 (y1, y4, y6, y7, z27, (y9 + 1), vM_leaked, vM_keptAll, vM_offAll, (upd cM_came y9.toNatClampNeg (((y6.toInt64 * u23.toInt64) / y7.toInt64).toInt32)), cM_got, cM_held, cM_off)))))
  (rc154 (y1, y4, y6, y7, y8, (y9 + 1), vM_leaked, vM_keptAll, vM_offAll, cM_came, cM_got, cM_held, cM_off)))
noncomputable def f_X8_look_L154 (cM_d : Nat → Int32) (rc51 : (Int32 × Int32 × Int32 × Int32 × (Nat → Int32) × (Nat → Int32) × (Nat → Int32) × (Nat → Int32)) → Option (Int32 × Int32 × Int32 × (Nat → Int32) × (Nat → Int32) × (Nat → Int32) × (Nat → Int32))) (k : Nat) : (Int32 × Int32 × Int32 × Int32 × Int32 × Int32 × Int32 × Int32 × Int32 × (Nat → Int32) × (Nat → Int32) × (Nat → Int32) × (Nat → Int32)) → Option (Int32 × Int32 × Int32 × (Nat → Int32) × (Nat → Int32) × (Nat → Int32) × (Nat → Int32)) := lp (fun rc v => f_X8_look_L154_b cM_d rc51 rc v.1 v.2.1 v.2.2.1 v.2.2.2.1 v.2.2.2.2.1 v.2.2.2.2.2.1 v.2.2.2.2.2.2.1 v.2.2.2.2.2.2.2.1 v.2.2.2.2.2.2.2.2.1 v.2.2.2.2.2.2.2.2.2.1 v.2.2.2.2.2.2.2.2.2.2.1 v.2.2.2.2.2.2.2.2.2.2.2.1 v.2.2.2.2.2.2.2.2.2.2.2.2) k
theorem f_X8_look_L154_s (cM_d : Nat → Int32) (rc51 : (Int32 × Int32 × Int32 × Int32 × (Nat → Int32) × (Nat → Int32) × (Nat → Int32) × (Nat → Int32)) → Option (Int32 × Int32 × Int32 × (Nat → Int32) × (Nat → Int32) × (Nat → Int32) × (Nat → Int32))) (k : Nat) (y1 : Int32) (y4 : Int32) (y6 : Int32) (y7 : Int32) (y8 : Int32) (y9 : Int32) (vM_leaked : Int32) (vM_keptAll : Int32) (vM_offAll : Int32) (cM_came : Nat → Int32) (cM_got : Nat → Int32) (cM_held : Nat → Int32) (cM_off : Nat → Int32) : f_X8_look_L154 cM_d rc51 (k + 1) (y1, y4, y6, y7, y8, y9, vM_leaked, vM_keptAll, vM_offAll, cM_came, cM_got, cM_held, cM_off) = f_X8_look_L154_b cM_d rc51 (f_X8_look_L154 cM_d rc51 k) y1 y4 y6 y7 y8 y9 vM_leaked vM_keptAll vM_offAll cM_came cM_got cM_held cM_off := rfl
theorem f_X8_look_L154_0 (cM_d : Nat → Int32) (rc51 : (Int32 × Int32 × Int32 × Int32 × (Nat → Int32) × (Nat → Int32) × (Nat → Int32) × (Nat → Int32)) → Option (Int32 × Int32 × Int32 × (Nat → Int32) × (Nat → Int32) × (Nat → Int32) × (Nat → Int32))) (v : Int32 × Int32 × Int32 × Int32 × Int32 × Int32 × Int32 × Int32 × Int32 × (Nat → Int32) × (Nat → Int32) × (Nat → Int32) × (Nat → Int32)) : f_X8_look_L154 cM_d rc51 0 v = none := rfl
noncomputable def f_X8_look_L51_b (cM_d : Nat → Int32) (rc51 : (Int32 × Int32 × Int32 × Int32 × (Nat → Int32) × (Nat → Int32) × (Nat → Int32) × (Nat → Int32)) → Option (Int32 × Int32 × Int32 × (Nat → Int32) × (Nat → Int32) × (Nat → Int32) × (Nat → Int32))) (y1 : Int32) (vM_leaked : Int32) (vM_keptAll : Int32) (vM_offAll : Int32) (cM_came : Nat → Int32) (cM_got : Nat → Int32) (cM_held : Nat → Int32) (cM_off : Nat → Int32) : Option (Int32 × Int32 × Int32 × (Nat → Int32) × (Nat → Int32) × (Nat → Int32) × (Nat → Int32)) :=
  br ((cM_d (0 : Int32).toNatClampNeg) ≤ y1)
  (some (vM_leaked, vM_keptAll, vM_offAll, cM_came, cM_got, cM_held, cM_off))
  (bd (f_X8_its y1 (0 : Int32) cM_d) fun u3 =>
  gd (vp_in y1 10) (nm (cM_came y1.toNatClampNeg) fun z5 =>
  bd (f_X8_leaks u3 z5) fun u6 =>
  bd (f_X8_keeps u3 (z5 - u6)) fun u7 =>
  gd (vp_in y1 10) (gd (vp_in y1 10) (nm ((z5 - u6) - ((upd cM_got y1.toNatClampNeg u7) y1.toNatClampNeg)) fun z10 =>
  bd (f_X8_its y1 (3 : Int32) cM_d) fun u11 =>
  bd (f_X8_holds u3 z10 u11) fun u12 =>
  gd (vp_in y1 10) (gd (vp_in y1 10) (nm (z10 - ((upd cM_held y1.toNatClampNeg u12) y1.toNatClampNeg)) fun z15 =>
  bd (f_X8_edgesBelow y1 cM_d) fun u16 =>
  nm (y1 + (1 : Int32)) fun z17 =>
  f_X8_look_L154 cM_d rc51 FU (y1, u6, z15, u16, z15, z17, vM_leaked, vM_keptAll, vM_offAll, cM_came, (upd cM_got y1.toNatClampNeg u7), (upd cM_held y1.toNatClampNeg u12), cM_off)))))))
noncomputable def f_X8_look_L51 (cM_d : Nat → Int32) (k : Nat) : (Int32 × Int32 × Int32 × Int32 × (Nat → Int32) × (Nat → Int32) × (Nat → Int32) × (Nat → Int32)) → Option (Int32 × Int32 × Int32 × (Nat → Int32) × (Nat → Int32) × (Nat → Int32) × (Nat → Int32)) := lp (fun rc v => f_X8_look_L51_b cM_d rc v.1 v.2.1 v.2.2.1 v.2.2.2.1 v.2.2.2.2.1 v.2.2.2.2.2.1 v.2.2.2.2.2.2.1 v.2.2.2.2.2.2.2) k
theorem f_X8_look_L51_s (cM_d : Nat → Int32) (k : Nat) (y1 : Int32) (vM_leaked : Int32) (vM_keptAll : Int32) (vM_offAll : Int32) (cM_came : Nat → Int32) (cM_got : Nat → Int32) (cM_held : Nat → Int32) (cM_off : Nat → Int32) : f_X8_look_L51 cM_d (k + 1) (y1, vM_leaked, vM_keptAll, vM_offAll, cM_came, cM_got, cM_held, cM_off) = f_X8_look_L51_b cM_d (f_X8_look_L51 cM_d k) y1 vM_leaked vM_keptAll vM_offAll cM_came cM_got cM_held cM_off := rfl
theorem f_X8_look_L51_0 (cM_d : Nat → Int32) (v : Int32 × Int32 × Int32 × Int32 × (Nat → Int32) × (Nat → Int32) × (Nat → Int32) × (Nat → Int32)) : f_X8_look_L51 cM_d 0 v = none := rfl
noncomputable def f_X8_look_L17_b (cM_d : Nat → Int32) (rc17 : (Int32 × Int32 × Int32 × Int32 × (Nat → Int32) × (Nat → Int32) × (Nat → Int32) × (Nat → Int32)) → Option (Int32 × Int32 × Int32 × (Nat → Int32) × (Nat → Int32) × (Nat → Int32) × (Nat → Int32))) (y1 : Int32) (vM_leaked : Int32) (vM_keptAll : Int32) (vM_offAll : Int32) (cM_came : Nat → Int32) (cM_got : Nat → Int32) (cM_held : Nat → Int32) (cM_off : Nat → Int32) : Option (Int32 × Int32 × Int32 × (Nat → Int32) × (Nat → Int32) × (Nat → Int32) × (Nat → Int32)) :=
  br ((10 : Int32) ≤ y1)
  (f_X8_look_L51 cM_d FU ((0 : Int32), vM_leaked, vM_keptAll, vM_offAll, cM_came, cM_got, cM_held, cM_off))
  (br (y1 = 0)
  (gd (vp_in y1 10) (rc17 ((y1 + 1), vM_leaked, vM_keptAll, vM_offAll, (upd cM_came y1.toNatClampNeg (cM_d (3 : Int32).toNatClampNeg)), cM_got, cM_held, cM_off)))
  (gd (vp_in y1 10) (rc17 ((y1 + 1), vM_leaked, vM_keptAll, vM_offAll, (upd cM_came y1.toNatClampNeg (0 : Int32)), cM_got, cM_held, cM_off))))
noncomputable def f_X8_look_L17 (cM_d : Nat → Int32) (k : Nat) : (Int32 × Int32 × Int32 × Int32 × (Nat → Int32) × (Nat → Int32) × (Nat → Int32) × (Nat → Int32)) → Option (Int32 × Int32 × Int32 × (Nat → Int32) × (Nat → Int32) × (Nat → Int32) × (Nat → Int32)) := lp (fun rc v => f_X8_look_L17_b cM_d rc v.1 v.2.1 v.2.2.1 v.2.2.2.1 v.2.2.2.2.1 v.2.2.2.2.2.1 v.2.2.2.2.2.2.1 v.2.2.2.2.2.2.2) k
theorem f_X8_look_L17_s (cM_d : Nat → Int32) (k : Nat) (y1 : Int32) (vM_leaked : Int32) (vM_keptAll : Int32) (vM_offAll : Int32) (cM_came : Nat → Int32) (cM_got : Nat → Int32) (cM_held : Nat → Int32) (cM_off : Nat → Int32) : f_X8_look_L17 cM_d (k + 1) (y1, vM_leaked, vM_keptAll, vM_offAll, cM_came, cM_got, cM_held, cM_off) = f_X8_look_L17_b cM_d (f_X8_look_L17 cM_d k) y1 vM_leaked vM_keptAll vM_offAll cM_came cM_got cM_held cM_off := rfl
theorem f_X8_look_L17_0 (cM_d : Nat → Int32) (v : Int32 × Int32 × Int32 × Int32 × (Nat → Int32) × (Nat → Int32) × (Nat → Int32) × (Nat → Int32)) : f_X8_look_L17 cM_d 0 v = none := rfl
noncomputable def f_X8_look (vM_leaked : Int32) (vM_keptAll : Int32) (vM_offAll : Int32) (cM_d : Nat → Int32) (cM_came : Nat → Int32) (cM_got : Nat → Int32) (cM_held : Nat → Int32) (cM_off : Nat → Int32) : Option (Int32 × Int32 × Int32 × (Nat → Int32) × (Nat → Int32) × (Nat → Int32) × (Nat → Int32)) :=
  f_X8_look_L17 cM_d FU ((0 : Int32), (0 : Int32), (0 : Int32), (0 : Int32), cM_came, cM_got, cM_held, cM_off)
noncomputable def f_X8_anHour_J60 (vM_leaked : Int32) (vM_keptAll : Int32) (vM_offAll : Int32) (cM_d : Nat → Int32) (cM_came : Nat → Int32) (cM_got : Nat → Int32) (cM_held : Nat → Int32) (cM_off : Nat → Int32) : Option (Int32 × Int32 × Int32 × (Nat → Int32) × (Nat → Int32) × (Nat → Int32) × (Nat → Int32) × (Nat → Int32)) :=
  some (vM_leaked, vM_keptAll, vM_offAll, (upd cM_d (1 : Int32).toNatClampNeg ((cM_d (1 : Int32).toNatClampNeg) + (1 : Int32))), cM_came, cM_got, cM_held, cM_off)
noncomputable def f_X8_anHour_L6_b (rc6 : (Int32 × Int32 × Int32 × Int32 × (Nat → Int32) × (Nat → Int32) × (Nat → Int32) × (Nat → Int32) × (Nat → Int32)) → Option (Int32 × Int32 × Int32 × (Nat → Int32) × (Nat → Int32) × (Nat → Int32) × (Nat → Int32) × (Nat → Int32))) (y1 : Int32) (vM_leaked : Int32) (vM_keptAll : Int32) (vM_offAll : Int32) (cM_d : Nat → Int32) (cM_came : Nat → Int32) (cM_got : Nat → Int32) (cM_held : Nat → Int32) (cM_off : Nat → Int32) : Option (Int32 × Int32 × Int32 × (Nat → Int32) × (Nat → Int32) × (Nat → Int32) × (Nat → Int32) × (Nat → Int32)) :=
  br ((cM_d (0 : Int32).toNatClampNeg) ≤ y1)
  (f_X8_anHour_J60 vM_leaked vM_keptAll vM_offAll cM_d cM_came cM_got cM_held cM_off)
  (bd (f_X8_its y1 (4 : Int32) cM_d) fun u3 =>
  gd (vp_in y1 10) (bd (f_X8_sets y1 (4 : Int32) (u3 + (cM_got y1.toNatClampNeg)) cM_d) fun u5 =>
  bd (f_X8_its y1 (3 : Int32) u5) fun u6 =>
  gd (vp_in y1 10) (bd (f_X8_sets y1 (3 : Int32) (u6 + (cM_held y1.toNatClampNeg)) u5) fun u8 =>
  rc6 ((y1 + 1), vM_leaked, vM_keptAll, vM_offAll, u8, cM_came, cM_got, cM_held, cM_off))))
noncomputable def f_X8_anHour_L6 (k : Nat) : (Int32 × Int32 × Int32 × Int32 × (Nat → Int32) × (Nat → Int32) × (Nat → Int32) × (Nat → Int32) × (Nat → Int32)) → Option (Int32 × Int32 × Int32 × (Nat → Int32) × (Nat → Int32) × (Nat → Int32) × (Nat → Int32) × (Nat → Int32)) := lp (fun rc v => f_X8_anHour_L6_b  rc v.1 v.2.1 v.2.2.1 v.2.2.2.1 v.2.2.2.2.1 v.2.2.2.2.2.1 v.2.2.2.2.2.2.1 v.2.2.2.2.2.2.2.1 v.2.2.2.2.2.2.2.2) k
theorem f_X8_anHour_L6_s (k : Nat) (y1 : Int32) (vM_leaked : Int32) (vM_keptAll : Int32) (vM_offAll : Int32) (cM_d : Nat → Int32) (cM_came : Nat → Int32) (cM_got : Nat → Int32) (cM_held : Nat → Int32) (cM_off : Nat → Int32) : f_X8_anHour_L6  (k + 1) (y1, vM_leaked, vM_keptAll, vM_offAll, cM_d, cM_came, cM_got, cM_held, cM_off) = f_X8_anHour_L6_b  (f_X8_anHour_L6  k) y1 vM_leaked vM_keptAll vM_offAll cM_d cM_came cM_got cM_held cM_off := rfl
theorem f_X8_anHour_L6_0 (v : Int32 × Int32 × Int32 × Int32 × (Nat → Int32) × (Nat → Int32) × (Nat → Int32) × (Nat → Int32) × (Nat → Int32)) : f_X8_anHour_L6  0 v = none := rfl
noncomputable def f_X8_anHour (vM_leaked : Int32) (vM_keptAll : Int32) (vM_offAll : Int32) (cM_d : Nat → Int32) (cM_came : Nat → Int32) (cM_got : Nat → Int32) (cM_held : Nat → Int32) (cM_off : Nat → Int32) : Option (Int32 × Int32 × Int32 × (Nat → Int32) × (Nat → Int32) × (Nat → Int32) × (Nat → Int32) × (Nat → Int32)) :=
  bd (f_X8_look vM_leaked vM_keptAll vM_offAll cM_d cM_came cM_got cM_held cM_off) fun u1 =>
  f_X8_anHour_L6 FU ((0 : Int32), u1.1, u1.2.1, u1.2.2.1, cM_d, u1.2.2.2.1, u1.2.2.2.2.1, u1.2.2.2.2.2.1, u1.2.2.2.2.2.2)
noncomputable def f_X8_comes (x1 : Int32) (x2 : Int32) (x3 : Int32) (cM_d : Nat → Int32) : Option (Int32 × (Nat → Int32)) :=
  nm (cM_d (0 : Int32).toNatClampNeg) fun z1 =>
  bd (f_X8_sets z1 (0 : Int32) x1 (upd cM_d (0 : Int32).toNatClampNeg ((cM_d (0 : Int32).toNatClampNeg) + (1 : Int32)))) fun u2 =>
  bd (f_X8_sets z1 (1 : Int32) x2 u2) fun u3 =>
  bd (f_X8_sets z1 (2 : Int32) x3 u3) fun u4 =>
  bd (f_X8_sets z1 (3 : Int32) (0 : Int32) u4) fun u5 =>
  bd (f_X8_sets z1 (4 : Int32) (0 : Int32) u5) fun u6 =>
  some (z1, u6)
noncomputable def f_X8_basin_J27 (x1 : Int32) (x2 : Int32) (t0 : Int32) (cM_d : Nat → Int32) (cM_found : Nat → Int32) : Option (Int32 × (Nat → Int32) × (Nat → Int32)) :=
  bd (f_X8_in x1.toInt64 (0 : Int64) (6 : Int64)) fun u1 =>
  br (u1 = 0)
  (bd (f_X8_finds (0 : Int32) cM_found) fun u3 =>
  some (u3.1, cM_d, u3.2))
  (br (t0 = 0)
  (bd (f_X8_finds (0 : Int32) cM_found) fun u8 =>
  some (u8.1, cM_d, u8.2))
  (br ((cM_d (0 : Int32).toNatClampNeg) = (10 : Int32))
  (bd (f_X8_finds (1 : Int32) cM_found) fun u7 =>
  some (u7.1, cM_d, u7.2))
  (bd (f_X8_comes x1 x2 (1 : Int32) cM_d) fun u6 =>
  some (u6.1, u6.2, cM_found))))
noncomputable def f_X8_basin (x1 : Int32) (x2 : Int32) (cM_d : Nat → Int32) (cM_found : Nat → Int32) : Option (Int32 × (Nat → Int32) × (Nat → Int32)) :=
  br ((cM_d (0 : Int32).toNatClampNeg) = 0)
  (br (x2 = (-1 : Int32))
  (f_X8_basin_J27 x1 x2 (1 : Int32) cM_d cM_found)
  (f_X8_basin_J27 x1 x2 (0 : Int32) cM_d cM_found))
  (bd (f_X8_isBasin x2 cM_d) fun u10 =>
  f_X8_basin_J27 x1 x2 u10 cM_d cM_found)
noncomputable def f_X8_of (x1 : Int32) (x2 : Int32) (vM_leaked : Int32) (vM_keptAll : Int32) (vM_offAll : Int32) (cM_d : Nat → Int32) (cM_found : Nat → Int32) (cM_came : Nat → Int32) (cM_got : Nat → Int32) (cM_held : Nat → Int32) (cM_off : Nat → Int32) : Option (Int32 × Int32 × Int32 × Int32 × (Nat → Int32) × (Nat → Int32) × (Nat → Int32) × (Nat → Int32) × (Nat → Int32)) :=
  bd (f_X8_isBasin x1 cM_d) fun u1 =>
  br (u1 = 0)
  (bd (f_X8_finds (0 : Int32) cM_found) fun u3 =>
  some (u3.1, vM_leaked, vM_keptAll, vM_offAll, u3.2, cM_came, cM_got, cM_held, cM_off))
  (bd (f_X8_in x2.toInt64 (0 : Int64) (6 : Int64)) fun u4 =>
  br (u4 = 0)
  (bd (f_X8_finds (0 : Int32) cM_found) fun u12 =>
  some (u12.1, vM_leaked, vM_keptAll, vM_offAll, u12.2, cM_came, cM_got, cM_held, cM_off))
  (bd (f_X8_look vM_leaked vM_keptAll vM_offAll cM_d cM_came cM_got cM_held cM_off) fun u6 =>
  br ((5 : Int32) ≤ x2)
  (br (x2 = (5 : Int32))
  (gd (vp_in x1 10) (some ((u6.2.2.2.1 x1.toNatClampNeg), u6.1, u6.2.1, u6.2.2.1, cM_found, u6.2.2.2.1, u6.2.2.2.2.1, u6.2.2.2.2.2.1, u6.2.2.2.2.2.2)))
  (gd (vp_in x1 10) (some ((u6.2.2.2.2.1 x1.toNatClampNeg), u6.1, u6.2.1, u6.2.2.1, cM_found, u6.2.2.2.1, u6.2.2.2.2.1, u6.2.2.2.2.2.1, u6.2.2.2.2.2.2))))
  (bd (f_X8_its x1 x2 cM_d) fun u11 =>
  some (u11, u6.1, u6.2.1, u6.2.2.1, cM_found, u6.2.2.2.1, u6.2.2.2.2.1, u6.2.2.2.2.2.1, u6.2.2.2.2.2.2))))
noncomputable def f_X8_change_J72 (x1 : Int32) (x2 : Int32) (x3 : Int32) (t0 : Int32) (cM_d : Nat → Int32) (cM_found : Nat → Int32) : Option (Int32 × (Nat → Int32) × (Nat → Int32)) :=
  bd (f_X8_isBasin x1 cM_d) fun u1 =>
  br (u1 = 0)
  (bd (f_X8_finds (0 : Int32) cM_found) fun u3 =>
  some (u3.1, cM_d, u3.2))
  (br (t0 = 0)
  (bd (f_X8_finds (0 : Int32) cM_found) fun u7 =>
  some (u7.1, cM_d, u7.2))
  (bd (f_X8_its x1 x2 cM_d) fun u5 =>
  bd (f_X8_sets x1 x2 x3 cM_d) fun u6 =>
  some (u5, u6, cM_found)))
noncomputable def f_X8_change (x1 : Int32) (x2 : Int32) (x3 : Int32) (cM_d : Nat → Int32) (cM_found : Nat → Int32) : Option (Int32 × (Nat → Int32) × (Nat → Int32)) :=
  br (x2 = 0)
  (bd (f_X8_in x3.toInt64 (0 : Int64) (6 : Int64)) fun u16 =>
  f_X8_change_J72 x1 x2 x3 u16 cM_d cM_found)
  (br (x2 = (2 : Int32))
  (bd (f_X8_in x3.toInt64 (1 : Int64) (9 : Int64)) fun u15 =>
  f_X8_change_J72 x1 x2 x3 u15 cM_d cM_found)
  (br (x2 = (3 : Int32))
  (bd (f_X8_in x3.toInt64 (0 : Int64) (30 : Int64)) fun u14 =>
  f_X8_change_J72 x1 x2 x3 u14 cM_d cM_found)
  (br (x2 = (4 : Int32))
  (bd (f_X8_in x3.toInt64 (0 : Int64) (99999999 : Int64)) fun u12 =>
  br (u12 = 0)
  (f_X8_change_J72 x1 x2 x3 (0 : Int32) cM_d cM_found)
  (f_X8_change_J72 x1 x2 x3 (1 : Int32) cM_d cM_found))
  (f_X8_change_J72 x1 x2 x3 (0 : Int32) cM_d cM_found))))
noncomputable def f_X8_join (x1 : Int32) (x2 : Int32) (cM_d : Nat → Int32) (cM_found : Nat → Int32) : Option (Int32 × (Nat → Int32) × (Nat → Int32)) :=
  bd (f_X8_isBasin x1 cM_d) fun u1 =>
  br (u1 = 0)
  (bd (f_X8_finds (0 : Int32) cM_found) fun u3 =>
  some (u3.1, cM_d, u3.2))
  (br (x1 = 0)
  (bd (f_X8_finds (0 : Int32) cM_found) fun u5 =>
  some (u5.1, cM_d, u5.2))
  (bd (f_X8_in x2.toInt64 (0 : Int64) ((x1 - (1 : Int32)).toInt64)) fun u6 =>
  br (u6 = 0)
  (bd (f_X8_finds (0 : Int32) cM_found) fun u10 =>
  some (u10.1, cM_d, u10.2))
  (bd (f_X8_its x1 (1 : Int32) cM_d) fun u8 =>
  bd (f_X8_sets x1 (1 : Int32) x2 cM_d) fun u9 =>
  some (u8, u9, cM_found))))
noncomputable def f_X8_spring (x1 : Int32) (cM_d : Nat → Int32) (cM_found : Nat → Int32) : Option (Int32 × (Nat → Int32) × (Nat → Int32)) :=
  bd (f_X8_in x1.toInt64 (0 : Int64) (99999 : Int64)) fun u1 =>
  br (u1 = 0)
  (bd (f_X8_finds (0 : Int32) cM_found) fun u4 =>
  some (u4.1, cM_d, u4.2))
  (nm (cM_d (3 : Int32).toNatClampNeg) fun z3 =>
  some (z3, (upd cM_d (3 : Int32).toNatClampNeg x1), cM_found))
noncomputable def f_X8_under_J77 (x1 : Int32) (x2 : Int32) (cM_d : Nat → Int32) (rc31 : (Int32 × Int32 × (Nat → Int32)) → Option (Int32 × (Nat → Int32))) (y3 : Int32) (y4 : Int32) (t0 : Int32) (cM_found : Nat → Int32) : Option (Int32 × (Nat → Int32)) :=
  br (t0 = 0)
  (nm (y3 ||| (0 : Int32)) fun z10 =>
  rc31 (z10, (y4 + 1), cM_found))
  (nm (y3 ||| ((1 : Int32) <<< (y4 &&& 31))) fun z11 =>
  rc31 (z11, (y4 + 1), cM_found))
noncomputable def f_X8_under_L31_b (x1 : Int32) (x2 : Int32) (cM_d : Nat → Int32) (rc31 : (Int32 × Int32 × (Nat → Int32)) → Option (Int32 × (Nat → Int32))) (y3 : Int32) (y4 : Int32) (cM_found : Nat → Int32) : Option (Int32 × (Nat → Int32)) :=
  br ((cM_d (0 : Int32).toNatClampNeg) ≤ y4)
  (some (y3, cM_found))
  (bd (f_X8_its y4 (1 : Int32) cM_d) fun u8 =>
  br (u8 = x1)
  (f_X8_under_J77 x1 x2 cM_d rc31 y3 y4 (1 : Int32) cM_found)
  (br (x2 = (1 : Int32))
  (br (((y3 >>> (u8 &&& 31)) &&& (1 : Int32)) = (1 : Int32))
  (f_X8_under_J77 x1 x2 cM_d rc31 y3 y4 (1 : Int32) cM_found)
  (f_X8_under_J77 x1 x2 cM_d rc31 y3 y4 (0 : Int32) cM_found))
  (f_X8_under_J77 x1 x2 cM_d rc31 y3 y4 (0 : Int32) cM_found)))
noncomputable def f_X8_under_L31 (x1 : Int32) (x2 : Int32) (cM_d : Nat → Int32) (k : Nat) : (Int32 × Int32 × (Nat → Int32)) → Option (Int32 × (Nat → Int32)) := lp (fun rc v => f_X8_under_L31_b x1 x2 cM_d rc v.1 v.2.1 v.2.2) k
theorem f_X8_under_L31_s (x1 : Int32) (x2 : Int32) (cM_d : Nat → Int32) (k : Nat) (y3 : Int32) (y4 : Int32) (cM_found : Nat → Int32) : f_X8_under_L31 x1 x2 cM_d (k + 1) (y3, y4, cM_found) = f_X8_under_L31_b x1 x2 cM_d (f_X8_under_L31 x1 x2 cM_d k) y3 y4 cM_found := rfl
theorem f_X8_under_L31_0 (x1 : Int32) (x2 : Int32) (cM_d : Nat → Int32) (v : Int32 × Int32 × (Nat → Int32)) : f_X8_under_L31 x1 x2 cM_d 0 v = none := rfl
noncomputable def f_X8_under (x1 : Int32) (x2 : Int32) (cM_d : Nat → Int32) (cM_found : Nat → Int32) : Option (Int32 × (Nat → Int32)) :=
  bd (f_X8_isBasin x1 cM_d) fun u1 =>
  br (u1 = 0)
  (bd (f_X8_finds (0 : Int32) cM_found) fun u3 =>
  some (u3.1, u3.2))
  (bd (f_X8_in x2.toInt64 (0 : Int64) (1 : Int64)) fun u4 =>
  br (u4 = 0)
  (bd (f_X8_finds (0 : Int32) cM_found) fun u15 =>
  some (u15.1, u15.2))
  (nm (x1 + (1 : Int32)) fun z6 =>
  f_X8_under_L31 x1 x2 cM_d FU ((0 : Int32), z6, cM_found)))
noncomputable def f_X8_steps_L18_b (x1 : Int32) (cM_d : Nat → Int32) (rc18 : (Int32 × Int32 × (Nat → Int32)) → Option (Int32 × (Nat → Int32))) (y2 : Int32) (y3 : Int32) (cM_found : Nat → Int32) : Option (Int32 × (Nat → Int32)) :=
  br (y3 ≤ 0)
  (some (y2, cM_found))
  (bd (f_X8_its y3 (1 : Int32) cM_d) fun u4 =>
  rc18 ((y2 + 1), u4, cM_found))
noncomputable def f_X8_steps_L18 (x1 : Int32) (cM_d : Nat → Int32) (k : Nat) : (Int32 × Int32 × (Nat → Int32)) → Option (Int32 × (Nat → Int32)) := lp (fun rc v => f_X8_steps_L18_b x1 cM_d rc v.1 v.2.1 v.2.2) k
theorem f_X8_steps_L18_s (x1 : Int32) (cM_d : Nat → Int32) (k : Nat) (y2 : Int32) (y3 : Int32) (cM_found : Nat → Int32) : f_X8_steps_L18 x1 cM_d (k + 1) (y2, y3, cM_found) = f_X8_steps_L18_b x1 cM_d (f_X8_steps_L18 x1 cM_d k) y2 y3 cM_found := rfl
theorem f_X8_steps_L18_0 (x1 : Int32) (cM_d : Nat → Int32) (v : Int32 × Int32 × (Nat → Int32)) : f_X8_steps_L18 x1 cM_d 0 v = none := rfl
noncomputable def f_X8_steps (x1 : Int32) (cM_d : Nat → Int32) (cM_found : Nat → Int32) : Option (Int32 × (Nat → Int32)) :=
  bd (f_X8_isBasin x1 cM_d) fun u1 =>
  br (u1 = 0)
  (bd (f_X8_finds (0 : Int32) cM_found) fun u5 =>
  some (u5.1, u5.2))
  (f_X8_steps_L18 x1 cM_d FU ((0 : Int32), x1, cM_found))
noncomputable def f_X8_common_L6_b (x0 : Int64) (x2 : Int64) (rc6 : (Int64 × Int64) → Option (Int64)) (y4 : Int64) (y6 : Int64) : Option (Int64) :=
  br ((lg_cmp y6 (0 : Int64)) = 0)
  (some y4)
  (gd (¬ y6 = 0) (nm (y4 - y4 / y6 * y6) fun z3 =>
  rc6 (y6, z3)))
noncomputable def f_X8_common_L6 (x0 : Int64) (x2 : Int64) (k : Nat) : (Int64 × Int64) → Option (Int64) := lp (fun rc v => f_X8_common_L6_b x0 x2 rc v.1 v.2) k
theorem f_X8_common_L6_s (x0 : Int64) (x2 : Int64) (k : Nat) (y4 : Int64) (y6 : Int64) : f_X8_common_L6 x0 x2 (k + 1) (y4, y6) = f_X8_common_L6_b x0 x2 (f_X8_common_L6 x0 x2 k) y4 y6 := rfl
theorem f_X8_common_L6_0 (x0 : Int64) (x2 : Int64) (v : Int64 × Int64) : f_X8_common_L6 x0 x2 0 v = none := rfl
noncomputable def f_X8_common (x0 : Int64) (x2 : Int64) : Option (Int64) :=
  f_X8_common_L6 x0 x2 FU (x0, x2)
noncomputable def f_X8_times_J79 (x1 : Int64) (x3 : Int64) (x5 : Int64) (x7 : Int64) (vM_up : Int64) (vM_down : Int64) (vM_great : Int32) : Option (Int64 × Int64 × Int32) :=
  br (vM_great = 0)
  (br (0 < (lg_cmp vM_up (100000000000 : Int64)))
  (some (vM_up, vM_down, (1 : Int32)))
  (br ((lg_cmp vM_down (100000000000 : Int64)) ≤ 0)
  (some (vM_up, vM_down, (0 : Int32)))
  (some (vM_up, vM_down, (1 : Int32)))))
  (some (vM_up, vM_down, (1 : Int32)))
noncomputable def f_X8_times (x1 : Int64) (x3 : Int64) (x5 : Int64) (x7 : Int64) (vM_up : Int64) (vM_down : Int64) (vM_great : Int32) : Option (Int64 × Int64 × Int32) :=
  bd (f_X8_common x5 x7) fun u1 =>
  gd (¬ u1 = 0) (bd (f_X8_common x1 (x7 / u1)) fun u3 =>
  gd (¬ u1 = 0) (bd (f_X8_common (x5 / u1) x3) fun u5 =>
  gd (¬ u3 = 0) (gd (¬ u1 = 0) (gd (¬ u5 = 0) (gd (¬ u5 = 0) (gd (¬ u1 = 0) (gd (¬ u3 = 0) (br ((lg_cmp ((x1 / u3) * ((x5 / u1) / u5)) (0 : Int64)) = 0)
  (f_X8_times_J79 x1 x3 x5 x7 ((x1 / u3) * ((x5 / u1) / u5)) (1 : Int64) vM_great)
  (f_X8_times_J79 x1 x3 x5 x7 ((x1 / u3) * ((x5 / u1) / u5)) ((x3 / u5) * ((x7 / u1) / u3)) vM_great)))))))))
noncomputable def f_X8_shareOf_J195 (x1 : Int32) (x2 : Int32) (cM_d : Nat → Int32) (cM_comesUp : Nat → Int64) (cM_comesDown : Nat → Int64) (t1 : Int64) (t2 : Int64) (t3 : Int64) (t4 : Int64) (vM_up : Int64) (vM_down : Int64) (vM_sharesUp : Int64) (vM_sharesDown : Int64) (vM_onUp : Int64) (vM_onDown : Int64) (vM_great : Int32) : Option (Int64 × Int64 × Int64 × Int64 × Int64 × Int64 × Int32) :=
  bd (f_X8_times t1 t2 t3 t4 vM_up vM_down vM_great) fun u25 =>
  some (u25.1, u25.2.1, vM_sharesUp, vM_sharesDown, u25.1, u25.2.1, u25.2.2)
noncomputable def f_X8_shareOf_J172 (x1 : Int32) (x2 : Int32) (cM_d : Nat → Int32) (cM_comesUp : Nat → Int64) (cM_comesDown : Nat → Int64) (y3 : Int32) (t1 : Int64) (t2 : Int64) (t3 : Int64) (vM_up : Int64) (vM_down : Int64) (vM_sharesUp : Int64) (vM_sharesDown : Int64) (vM_onUp : Int64) (vM_onDown : Int64) (vM_great : Int32) : Option (Int64 × Int64 × Int64 × Int64 × Int64 × Int64 × Int32) :=
  br (y3 = (3 : Int32))
  (f_X8_shareOf_J195 x1 x2 cM_d cM_comesUp cM_comesDown t1 t2 t3 (1 : Int64) vM_up vM_down vM_sharesUp vM_sharesDown vM_onUp vM_onDown vM_great)
  (br (y3 = (1 : Int32))
  (f_X8_shareOf_J195 x1 x2 cM_d cM_comesUp cM_comesDown t1 t2 t3 (5 : Int64) vM_up vM_down vM_sharesUp vM_sharesDown vM_onUp vM_onDown vM_great)
  (f_X8_shareOf_J195 x1 x2 cM_d cM_comesUp cM_comesDown t1 t2 t3 (3 : Int64) vM_up vM_down vM_sharesUp vM_sharesDown vM_onUp vM_onDown vM_great))
noncomputable def f_X8_shareOf_J121 (x1 : Int32) (x2 : Int32) (cM_d : Nat → Int32) (cM_comesUp : Nat → Int64) (cM_comesDown : Nat → Int64) (y3 : Int32) (y4 : Int64) (y6 : Int64) (t1 : Int64) (t2 : Int64) (t3 : Int64) (t4 : Int64) (vM_up : Int64) (vM_down : Int64) (vM_sharesUp : Int64) (vM_sharesDown : Int64) (vM_onUp : Int64) (vM_onDown : Int64) (vM_great : Int32) : Option (Int64 × Int64 × Int64 × Int64 × Int64 × Int64 × Int32) :=
  bd (f_X8_times t1 t2 t3 t4 vM_up vM_down vM_great) fun u23 =>
  br (x2 = 0)
  (some (u23.1, u23.2.1, u23.1, u23.2.1, vM_onUp, vM_onDown, u23.2.2))
  (br (y3 = (3 : Int32))
  (f_X8_shareOf_J172 x1 x2 cM_d cM_comesUp cM_comesDown y3 y4 y6 (1 : Int64) u23.1 u23.2.1 u23.1 u23.2.1 vM_onUp vM_onDown u23.2.2)
  (br (y3 = (1 : Int32))
  (f_X8_shareOf_J172 x1 x2 cM_d cM_comesUp cM_comesDown y3 y4 y6 (3 : Int64) u23.1 u23.2.1 u23.1 u23.2.1 vM_onUp vM_onDown u23.2.2)
  (f_X8_shareOf_J172 x1 x2 cM_d cM_comesUp cM_comesDown y3 y4 y6 (2 : Int64) u23.1 u23.2.1 u23.1 u23.2.1 vM_onUp vM_onDown u23.2.2)))
noncomputable def f_X8_shareOf_J66 (x1 : Int32) (x2 : Int32) (cM_d : Nat → Int32) (cM_comesUp : Nat → Int64) (cM_comesDown : Nat → Int64) (y3 : Int32) (t1 : Int64) (t2 : Int64) (t3 : Int64) (t4 : Int64) (vM_up : Int64) (vM_down : Int64) (vM_sharesUp : Int64) (vM_sharesDown : Int64) (vM_onUp : Int64) (vM_onDown : Int64) (vM_great : Int32) : Option (Int64 × Int64 × Int64 × Int64 × Int64 × Int64 × Int32) :=
  bd (f_X8_times t1 t2 t3 t4 vM_up vM_down vM_great) fun u4 =>
  br (y3 = (3 : Int32))
  (br (y3 = (1 : Int32))
  (f_X8_shareOf_J121 x1 x2 cM_d cM_comesUp cM_comesDown y3 u4.1 u4.2.1 u4.1 u4.2.1 (0 : Int64) (5 : Int64) u4.1 u4.2.1 vM_sharesUp vM_sharesDown vM_onUp vM_onDown u4.2.2)
  (f_X8_shareOf_J121 x1 x2 cM_d cM_comesUp cM_comesDown y3 u4.1 u4.2.1 u4.1 u4.2.1 (0 : Int64) (3 : Int64) u4.1 u4.2.1 vM_sharesUp vM_sharesDown vM_onUp vM_onDown u4.2.2))
  (br (y3 = (1 : Int32))
  (br (y3 = (1 : Int32))
  (f_X8_shareOf_J121 x1 x2 cM_d cM_comesUp cM_comesDown y3 u4.1 u4.2.1 u4.1 u4.2.1 (2 : Int64) (5 : Int64) u4.1 u4.2.1 vM_sharesUp vM_sharesDown vM_onUp vM_onDown u4.2.2)
  (f_X8_shareOf_J121 x1 x2 cM_d cM_comesUp cM_comesDown y3 u4.1 u4.2.1 u4.1 u4.2.1 (2 : Int64) (3 : Int64) u4.1 u4.2.1 vM_sharesUp vM_sharesDown vM_onUp vM_onDown u4.2.2))
  (br (y3 = (1 : Int32))
  (f_X8_shareOf_J121 x1 x2 cM_d cM_comesUp cM_comesDown y3 u4.1 u4.2.1 u4.1 u4.2.1 (1 : Int64) (5 : Int64) u4.1 u4.2.1 vM_sharesUp vM_sharesDown vM_onUp vM_onDown u4.2.2)
  (f_X8_shareOf_J121 x1 x2 cM_d cM_comesUp cM_comesDown y3 u4.1 u4.2.1 u4.1 u4.2.1 (1 : Int64) (3 : Int64) u4.1 u4.2.1 vM_sharesUp vM_sharesDown vM_onUp vM_onDown u4.2.2)))
noncomputable def f_X8_shareOf_J43 (x1 : Int32) (x2 : Int32) (cM_d : Nat → Int32) (cM_comesUp : Nat → Int64) (cM_comesDown : Nat → Int64) (y3 : Int32) (t1 : Int64) (t2 : Int64) (t3 : Int64) (vM_up : Int64) (vM_down : Int64) (vM_sharesUp : Int64) (vM_sharesDown : Int64) (vM_onUp : Int64) (vM_onDown : Int64) (vM_great : Int32) : Option (Int64 × Int64 × Int64 × Int64 × Int64 × Int64 × Int32) :=
  br (y3 = (2 : Int32))
  (f_X8_shareOf_J66 x1 x2 cM_d cM_comesUp cM_comesDown y3 t1 t2 t3 (10 : Int64) vM_up vM_down vM_sharesUp vM_sharesDown vM_onUp vM_onDown vM_great)
  (br (y3 = (4 : Int32))
  (f_X8_shareOf_J66 x1 x2 cM_d cM_comesUp cM_comesDown y3 t1 t2 t3 (5 : Int64) vM_up vM_down vM_sharesUp vM_sharesDown vM_onUp vM_onDown vM_great)
  (f_X8_shareOf_J66 x1 x2 cM_d cM_comesUp cM_comesDown y3 t1 t2 t3 (1 : Int64) vM_up vM_down vM_sharesUp vM_sharesDown vM_onUp vM_onDown vM_great))
noncomputable def f_X8_shareOf (x1 : Int32) (x2 : Int32) (vM_up : Int64) (vM_down : Int64) (vM_sharesUp : Int64) (vM_sharesDown : Int64) (vM_onUp : Int64) (vM_onDown : Int64) (vM_great : Int32) (cM_d : Nat → Int32) (cM_comesUp : Nat → Int64) (cM_comesDown : Nat → Int64) : Option (Int64 × Int64 × Int64 × Int64 × Int64 × Int64 × Int32) :=
  bd (f_X8_its x1 (0 : Int32) cM_d) fun u1 =>
  gd (vp_in x1 10) (gd (vp_in x1 10) (br (u1 = (2 : Int32))
  (f_X8_shareOf_J43 x1 x2 cM_d cM_comesUp cM_comesDown u1 (cM_comesUp x1.toNatClampNeg) (cM_comesDown x1.toNatClampNeg) (9 : Int64) vM_up vM_down vM_sharesUp vM_sharesDown vM_onUp vM_onDown vM_great)
  (br (u1 = (4 : Int32))
  (f_X8_shareOf_J43 x1 x2 cM_d cM_comesUp cM_comesDown u1 (cM_comesUp x1.toNatClampNeg) (cM_comesDown x1.toNatClampNeg) (4 : Int64) vM_up vM_down vM_sharesUp vM_sharesDown vM_onUp vM_onDown vM_great)
  (f_X8_shareOf_J43 x1 x2 cM_d cM_comesUp cM_comesDown u1 (cM_comesUp x1.toNatClampNeg) (cM_comesDown x1.toNatClampNeg) (1 : Int64) vM_up vM_down vM_sharesUp vM_sharesDown vM_onUp vM_onDown vM_great))))
noncomputable def f_X8_wayTo_L51_b (x1 : Int32) (cM_d : Nat → Int32) (rc51 : (Int32 × Int64 × Int64 × Int64 × Int64 × Int64 × Int64 × Int32 × (Nat → Int32) × (Nat → Int64) × (Nat → Int64)) → Option (Int64 × Int64 × Int64 × Int64 × Int64 × Int64 × Int32 × (Nat → Int32) × (Nat → Int64) × (Nat → Int64))) (y3 : Int32) (vM_up : Int64) (vM_down : Int64) (vM_sharesUp : Int64) (vM_sharesDown : Int64) (vM_onUp : Int64) (vM_onDown : Int64) (vM_great : Int32) (cM_path : Nat → Int32) (cM_comesUp : Nat → Int64) (cM_comesDown : Nat → Int64) : Option (Int64 × Int64 × Int64 × Int64 × Int64 × Int64 × Int32 × (Nat → Int32) × (Nat → Int64) × (Nat → Int64)) :=
  br (y3 < 0)
  (some (vM_up, vM_down, vM_sharesUp, vM_sharesDown, vM_onUp, vM_onDown, vM_great, cM_path, cM_comesUp, cM_comesDown))
  (br (vM_great = 0)
  (gd (vp_in y3 10) (nm (cM_path y3.toNatClampNeg) fun z5 =>
  gd (vp_in (y3 + (1 : Int32)) 10) (nm (cM_path (y3 + (1 : Int32)).toNatClampNeg) fun z7 =>
  bd (f_X8_shareOf z7 (1 : Int32) vM_up vM_down vM_sharesUp vM_sharesDown vM_onUp vM_onDown vM_great cM_d cM_comesUp cM_comesDown) fun u8 =>
  br (u8.2.2.2.2.2.2 = 0)
  (bd (f_X8_its z5 (2 : Int32) cM_d) fun u10 =>
  bd (f_X8_edgesBelow z7 cM_d) fun u11 =>
  bd (f_X8_times u8.2.2.2.2.1 u8.2.2.2.2.2.1 u10.toInt64 u11.toInt64 u8.1 u8.2.1 u8.2.2.2.2.2.2) fun u12 =>
  gd (vp_in z5 10) (gd (vp_in z5 10) (rc51 ((y3 + (-1)), u12.1, u12.2.1, u8.2.2.1, u8.2.2.2.1, u8.2.2.2.2.1, u8.2.2.2.2.2.1, u12.2.2, cM_path, (vp_updL cM_comesUp z5.toNatClampNeg u12.1), (vp_updL cM_comesDown z5.toNatClampNeg u12.2.1)))))
  (some (u8.1, u8.2.1, u8.2.2.1, u8.2.2.2.1, u8.2.2.2.2.1, u8.2.2.2.2.2.1, u8.2.2.2.2.2.2, cM_path, cM_comesUp, cM_comesDown)))))
  (some (vM_up, vM_down, vM_sharesUp, vM_sharesDown, vM_onUp, vM_onDown, vM_great, cM_path, cM_comesUp, cM_comesDown)))
noncomputable def f_X8_wayTo_L51 (x1 : Int32) (cM_d : Nat → Int32) (k : Nat) : (Int32 × Int64 × Int64 × Int64 × Int64 × Int64 × Int64 × Int32 × (Nat → Int32) × (Nat → Int64) × (Nat → Int64)) → Option (Int64 × Int64 × Int64 × Int64 × Int64 × Int64 × Int32 × (Nat → Int32) × (Nat → Int64) × (Nat → Int64)) := lp (fun rc v => f_X8_wayTo_L51_b x1 cM_d rc v.1 v.2.1 v.2.2.1 v.2.2.2.1 v.2.2.2.2.1 v.2.2.2.2.2.1 v.2.2.2.2.2.2.1 v.2.2.2.2.2.2.2.1 v.2.2.2.2.2.2.2.2.1 v.2.2.2.2.2.2.2.2.2.1 v.2.2.2.2.2.2.2.2.2.2) k
theorem f_X8_wayTo_L51_s (x1 : Int32) (cM_d : Nat → Int32) (k : Nat) (y3 : Int32) (vM_up : Int64) (vM_down : Int64) (vM_sharesUp : Int64) (vM_sharesDown : Int64) (vM_onUp : Int64) (vM_onDown : Int64) (vM_great : Int32) (cM_path : Nat → Int32) (cM_comesUp : Nat → Int64) (cM_comesDown : Nat → Int64) : f_X8_wayTo_L51 x1 cM_d (k + 1) (y3, vM_up, vM_down, vM_sharesUp, vM_sharesDown, vM_onUp, vM_onDown, vM_great, cM_path, cM_comesUp, cM_comesDown) = f_X8_wayTo_L51_b x1 cM_d (f_X8_wayTo_L51 x1 cM_d k) y3 vM_up vM_down vM_sharesUp vM_sharesDown vM_onUp vM_onDown vM_great cM_path cM_comesUp cM_comesDown := rfl
theorem f_X8_wayTo_L51_0 (x1 : Int32) (cM_d : Nat → Int32) (v : Int32 × Int64 × Int64 × Int64 × Int64 × Int64 × Int64 × Int32 × (Nat → Int32) × (Nat → Int64) × (Nat → Int64)) : f_X8_wayTo_L51 x1 cM_d 0 v = none := rfl
noncomputable def f_X8_wayTo_J33 (x1 : Int32) (cM_d : Nat → Int32) (y2 : Int32) (vM_up : Int64) (vM_down : Int64) (vM_sharesUp : Int64) (vM_sharesDown : Int64) (vM_onUp : Int64) (vM_onDown : Int64) (vM_great : Int32) (cM_path : Nat → Int32) (cM_comesUp : Nat → Int64) (cM_comesDown : Nat → Int64) : Option (Int64 × Int64 × Int64 × Int64 × Int64 × Int64 × Int32 × (Nat → Int32) × (Nat → Int64) × (Nat → Int64)) :=
  nm (y2 - (2 : Int32)) fun z1 =>
  f_X8_wayTo_L51 x1 cM_d FU (z1, vM_up, vM_down, vM_sharesUp, vM_sharesDown, vM_onUp, vM_onDown, vM_great, cM_path, (vp_updL cM_comesUp (0 : Int32).toNatClampNeg (1 : Int64)), (vp_updL cM_comesDown (0 : Int32).toNatClampNeg (1 : Int64)))
noncomputable def f_X8_wayTo_L9_b (x1 : Int32) (cM_d : Nat → Int32) (rc9 : (Int32 × Int32 × Int64 × Int64 × Int64 × Int64 × Int64 × Int64 × Int32 × (Nat → Int32) × (Nat → Int64) × (Nat → Int64)) → Option (Int64 × Int64 × Int64 × Int64 × Int64 × Int64 × Int32 × (Nat → Int32) × (Nat → Int64) × (Nat → Int64))) (y2 : Int32) (y3 : Int32) (vM_up : Int64) (vM_down : Int64) (vM_sharesUp : Int64) (vM_sharesDown : Int64) (vM_onUp : Int64) (vM_onDown : Int64) (vM_great : Int32) (cM_path : Nat → Int32) (cM_comesUp : Nat → Int64) (cM_comesDown : Nat → Int64) : Option (Int64 × Int64 × Int64 × Int64 × Int64 × Int64 × Int32 × (Nat → Int32) × (Nat → Int64) × (Nat → Int64)) :=
  br (y3 < 0)
  (f_X8_wayTo_J33 x1 cM_d y2 vM_up vM_down vM_sharesUp vM_sharesDown vM_onUp vM_onDown vM_great cM_path cM_comesUp cM_comesDown)
  (gd (vp_in y2 10) (bd (f_X8_its y3 (1 : Int32) cM_d) fun u17 =>
  rc9 ((y2 + 1), u17, vM_up, vM_down, vM_sharesUp, vM_sharesDown, vM_onUp, vM_onDown, vM_great, (upd cM_path y2.toNatClampNeg y3), cM_comesUp, cM_comesDown)))
noncomputable def f_X8_wayTo_L9 (x1 : Int32) (cM_d : Nat → Int32) (k : Nat) : (Int32 × Int32 × Int64 × Int64 × Int64 × Int64 × Int64 × Int64 × Int32 × (Nat → Int32) × (Nat → Int64) × (Nat → Int64)) → Option (Int64 × Int64 × Int64 × Int64 × Int64 × Int64 × Int32 × (Nat → Int32) × (Nat → Int64) × (Nat → Int64)) := lp (fun rc v => f_X8_wayTo_L9_b x1 cM_d rc v.1 v.2.1 v.2.2.1 v.2.2.2.1 v.2.2.2.2.1 v.2.2.2.2.2.1 v.2.2.2.2.2.2.1 v.2.2.2.2.2.2.2.1 v.2.2.2.2.2.2.2.2.1 v.2.2.2.2.2.2.2.2.2.1 v.2.2.2.2.2.2.2.2.2.2.1 v.2.2.2.2.2.2.2.2.2.2.2) k
theorem f_X8_wayTo_L9_s (x1 : Int32) (cM_d : Nat → Int32) (k : Nat) (y2 : Int32) (y3 : Int32) (vM_up : Int64) (vM_down : Int64) (vM_sharesUp : Int64) (vM_sharesDown : Int64) (vM_onUp : Int64) (vM_onDown : Int64) (vM_great : Int32) (cM_path : Nat → Int32) (cM_comesUp : Nat → Int64) (cM_comesDown : Nat → Int64) : f_X8_wayTo_L9 x1 cM_d (k + 1) (y2, y3, vM_up, vM_down, vM_sharesUp, vM_sharesDown, vM_onUp, vM_onDown, vM_great, cM_path, cM_comesUp, cM_comesDown) = f_X8_wayTo_L9_b x1 cM_d (f_X8_wayTo_L9 x1 cM_d k) y2 y3 vM_up vM_down vM_sharesUp vM_sharesDown vM_onUp vM_onDown vM_great cM_path cM_comesUp cM_comesDown := rfl
theorem f_X8_wayTo_L9_0 (x1 : Int32) (cM_d : Nat → Int32) (v : Int32 × Int32 × Int64 × Int64 × Int64 × Int64 × Int64 × Int64 × Int32 × (Nat → Int32) × (Nat → Int64) × (Nat → Int64)) : f_X8_wayTo_L9 x1 cM_d 0 v = none := rfl
noncomputable def f_X8_wayTo (x1 : Int32) (vM_up : Int64) (vM_down : Int64) (vM_sharesUp : Int64) (vM_sharesDown : Int64) (vM_onUp : Int64) (vM_onDown : Int64) (vM_great : Int32) (cM_path : Nat → Int32) (cM_comesUp : Nat → Int64) (cM_comesDown : Nat → Int64) (cM_d : Nat → Int32) : Option (Int64 × Int64 × Int64 × Int64 × Int64 × Int64 × Int32 × (Nat → Int32) × (Nat → Int64) × (Nat → Int64)) :=
  f_X8_wayTo_L9 x1 cM_d FU ((0 : Int32), x1, vM_up, vM_down, vM_sharesUp, vM_sharesDown, vM_onUp, vM_onDown, (0 : Int32), cM_path, cM_comesUp, cM_comesDown)
noncomputable def f_X8_isShare (x1 : Int32) (vM_up : Int64) (vM_down : Int64) (vM_sharesUp : Int64) (vM_sharesDown : Int64) (vM_onUp : Int64) (vM_onDown : Int64) (vM_great : Int32) (cM_path : Nat → Int32) (cM_comesUp : Nat → Int64) (cM_comesDown : Nat → Int64) (cM_d : Nat → Int32) : Option (Int32 × Int64 × Int64 × Int64 × Int64 × Int64 × Int64 × Int32 × (Nat → Int32) × (Nat → Int64) × (Nat → Int64)) :=
  bd (f_X8_wayTo x1 vM_up vM_down vM_sharesUp vM_sharesDown vM_onUp vM_onDown vM_great cM_path cM_comesUp cM_comesDown cM_d) fun u1 =>
  br (u1.2.2.2.2.2.2.1 = 0)
  (bd (f_X8_shareOf x1 (0 : Int32) u1.1 u1.2.1 u1.2.2.1 u1.2.2.2.1 u1.2.2.2.2.1 u1.2.2.2.2.2.1 u1.2.2.2.2.2.2.1 cM_d u1.2.2.2.2.2.2.2.2.1 u1.2.2.2.2.2.2.2.2.2) fun u4 =>
  br (u4.2.2.2.2.2.2 = 0)
  (some ((1 : Int32), u4.1, u4.2.1, u4.2.2.1, u4.2.2.2.1, u4.2.2.2.2.1, u4.2.2.2.2.2.1, u4.2.2.2.2.2.2, u1.2.2.2.2.2.2.2.1, u1.2.2.2.2.2.2.2.2.1, u1.2.2.2.2.2.2.2.2.2))
  (some ((0 : Int32), u4.1, u4.2.1, u4.2.2.1, u4.2.2.2.1, u4.2.2.2.2.1, u4.2.2.2.2.2.1, u4.2.2.2.2.2.2, u1.2.2.2.2.2.2.2.1, u1.2.2.2.2.2.2.2.2.1, u1.2.2.2.2.2.2.2.2.2)))
  (br (u1.2.2.2.2.2.2.1 = 0)
  (some ((1 : Int32), u1.1, u1.2.1, u1.2.2.1, u1.2.2.2.1, u1.2.2.2.2.1, u1.2.2.2.2.2.1, u1.2.2.2.2.2.2.1, u1.2.2.2.2.2.2.2.1, u1.2.2.2.2.2.2.2.2.1, u1.2.2.2.2.2.2.2.2.2))
  (some ((0 : Int32), u1.1, u1.2.1, u1.2.2.1, u1.2.2.2.1, u1.2.2.2.2.1, u1.2.2.2.2.2.1, u1.2.2.2.2.2.2.1, u1.2.2.2.2.2.2.2.1, u1.2.2.2.2.2.2.2.2.1, u1.2.2.2.2.2.2.2.2.2)))
noncomputable def f_X8_share (x1 : Int32) (x2 : Int32) (vM_up : Int64) (vM_down : Int64) (vM_sharesUp : Int64) (vM_sharesDown : Int64) (vM_onUp : Int64) (vM_onDown : Int64) (vM_great : Int32) (cM_d : Nat → Int32) (cM_found : Nat → Int32) (cM_path : Nat → Int32) (cM_comesUp : Nat → Int64) (cM_comesDown : Nat → Int64) : Option (Int64 × Int64 × Int64 × Int64 × Int64 × Int64 × Int64 × Int32 × (Nat → Int32) × (Nat → Int32) × (Nat → Int64) × (Nat → Int64)) :=
  bd (f_X8_isBasin x1 cM_d) fun u1 =>
  br (u1 = 0)
  (bd (f_X8_finds (0 : Int32) cM_found) fun u3 =>
  some (u3.1.toInt64, vM_up, vM_down, vM_sharesUp, vM_sharesDown, vM_onUp, vM_onDown, vM_great, u3.2, cM_path, cM_comesUp, cM_comesDown))
  (bd (f_X8_in x2.toInt64 (0 : Int64) (1 : Int64)) fun u4 =>
  br (u4 = 0)
  (bd (f_X8_finds (0 : Int32) cM_found) fun u10 =>
  some (u10.1.toInt64, vM_up, vM_down, vM_sharesUp, vM_sharesDown, vM_onUp, vM_onDown, vM_great, u10.2, cM_path, cM_comesUp, cM_comesDown))
  (bd (f_X8_isShare x1 vM_up vM_down vM_sharesUp vM_sharesDown vM_onUp vM_onDown vM_great cM_path cM_comesUp cM_comesDown cM_d) fun u6 =>
  br (u6.1 = 0)
  (bd (f_X8_finds (6 : Int32) cM_found) fun u9 =>
  some (u9.1.toInt64, u6.2.1, u6.2.2.1, u6.2.2.2.1, u6.2.2.2.2.1, u6.2.2.2.2.2.1, u6.2.2.2.2.2.2.1, u6.2.2.2.2.2.2.2.1, u9.2, u6.2.2.2.2.2.2.2.2.1, u6.2.2.2.2.2.2.2.2.2.1, u6.2.2.2.2.2.2.2.2.2.2))
  (br (x2 = 0)
  (some (u6.2.2.2.1, u6.2.1, u6.2.2.1, u6.2.2.2.1, u6.2.2.2.2.1, u6.2.2.2.2.2.1, u6.2.2.2.2.2.2.1, u6.2.2.2.2.2.2.2.1, cM_found, u6.2.2.2.2.2.2.2.2.1, u6.2.2.2.2.2.2.2.2.2.1, u6.2.2.2.2.2.2.2.2.2.2))
  (some (u6.2.2.2.2.1, u6.2.1, u6.2.2.1, u6.2.2.2.1, u6.2.2.2.2.1, u6.2.2.2.2.2.1, u6.2.2.2.2.2.2.1, u6.2.2.2.2.2.2.2.1, cM_found, u6.2.2.2.2.2.2.2.2.1, u6.2.2.2.2.2.2.2.2.2.1, u6.2.2.2.2.2.2.2.2.2.2)))))
noncomputable def f_X8_rest_J54 (x1 : Int32) (x2 : Int32) (cM_d : Nat → Int32) (vM_up : Int64) (vM_down : Int64) (vM_sharesUp : Int64) (vM_sharesDown : Int64) (vM_onUp : Int64) (vM_onDown : Int64) (vM_great : Int32) (cM_found : Nat → Int32) (cM_path : Nat → Int32) (cM_comesUp : Nat → Int64) (cM_comesDown : Nat → Int64) : Option (Int64 × Int64 × Int64 × Int64 × Int64 × Int64 × Int64 × Int32 × (Nat → Int32) × (Nat → Int32) × (Nat → Int64) × (Nat → Int64)) :=
  br (vM_great = 0)
  (br (x2 = 0)
  (some (vM_onUp, vM_up, vM_down, vM_sharesUp, vM_sharesDown, vM_onUp, vM_onDown, vM_great, cM_found, cM_path, cM_comesUp, cM_comesDown))
  (some (vM_onDown, vM_up, vM_down, vM_sharesUp, vM_sharesDown, vM_onUp, vM_onDown, vM_great, cM_found, cM_path, cM_comesUp, cM_comesDown)))
  (bd (f_X8_finds (6 : Int32) cM_found) fun u11 =>
  some (u11.1.toInt64, vM_up, vM_down, vM_sharesUp, vM_sharesDown, vM_onUp, vM_onDown, vM_great, u11.2, cM_path, cM_comesUp, cM_comesDown))
noncomputable def f_X8_rest (x1 : Int32) (x2 : Int32) (vM_up : Int64) (vM_down : Int64) (vM_sharesUp : Int64) (vM_sharesDown : Int64) (vM_onUp : Int64) (vM_onDown : Int64) (vM_great : Int32) (cM_d : Nat → Int32) (cM_found : Nat → Int32) (cM_path : Nat → Int32) (cM_comesUp : Nat → Int64) (cM_comesDown : Nat → Int64) : Option (Int64 × Int64 × Int64 × Int64 × Int64 × Int64 × Int64 × Int32 × (Nat → Int32) × (Nat → Int32) × (Nat → Int64) × (Nat → Int64)) :=
  bd (f_X8_isBasin x1 cM_d) fun u1 =>
  br (u1 = 0)
  (bd (f_X8_finds (0 : Int32) cM_found) fun u3 =>
  some (u3.1.toInt64, vM_up, vM_down, vM_sharesUp, vM_sharesDown, vM_onUp, vM_onDown, vM_great, u3.2, cM_path, cM_comesUp, cM_comesDown))
  (bd (f_X8_in x2.toInt64 (0 : Int64) (1 : Int64)) fun u4 =>
  br (u4 = 0)
  (bd (f_X8_finds (0 : Int32) cM_found) fun u14 =>
  some (u14.1.toInt64, vM_up, vM_down, vM_sharesUp, vM_sharesDown, vM_onUp, vM_onDown, vM_great, u14.2, cM_path, cM_comesUp, cM_comesDown))
  (bd (f_X8_edgesBelow x1 cM_d) fun u6 =>
  br (u6 ≤ 0)
  (bd (f_X8_wayTo x1 vM_up vM_down vM_sharesUp vM_sharesDown vM_onUp vM_onDown vM_great cM_path cM_comesUp cM_comesDown cM_d) fun u8 =>
  br (u8.2.2.2.2.2.2.1 = 0)
  (bd (f_X8_shareOf x1 (1 : Int32) u8.1 u8.2.1 u8.2.2.1 u8.2.2.2.1 u8.2.2.2.2.1 u8.2.2.2.2.2.1 u8.2.2.2.2.2.2.1 cM_d u8.2.2.2.2.2.2.2.2.1 u8.2.2.2.2.2.2.2.2.2) fun u13 =>
  f_X8_rest_J54 x1 x2 cM_d u13.1 u13.2.1 u13.2.2.1 u13.2.2.2.1 u13.2.2.2.2.1 u13.2.2.2.2.2.1 u13.2.2.2.2.2.2 cM_found u8.2.2.2.2.2.2.2.1 u8.2.2.2.2.2.2.2.2.1 u8.2.2.2.2.2.2.2.2.2)
  (f_X8_rest_J54 x1 x2 cM_d u8.1 u8.2.1 u8.2.2.1 u8.2.2.2.1 u8.2.2.2.2.1 u8.2.2.2.2.2.1 u8.2.2.2.2.2.2.1 cM_found u8.2.2.2.2.2.2.2.1 u8.2.2.2.2.2.2.2.2.1 u8.2.2.2.2.2.2.2.2.2))
  (some (x2.toInt64, vM_up, vM_down, vM_sharesUp, vM_sharesDown, vM_onUp, vM_onDown, vM_great, cM_found, cM_path, cM_comesUp, cM_comesDown))))
noncomputable def f_X8_order_J90 (x0 : Int64) (x2 : Int64) (x4 : Int64) (x6 : Int64) (y8 : Int64) (y12 : Int64) (y16 : Int32) : Option (Int32) :=
  br ((lg_cmp y8 (0 : Int64)) = 0)
  (br ((lg_cmp y12 (0 : Int64)) = 0)
  (some (0 : Int32))
  (br ((lg_cmp y8 (0 : Int64)) = 0)
  (some (-y16))
  (some y16)))
  (br ((lg_cmp y8 (0 : Int64)) = 0)
  (some (-y16))
  (some y16))
noncomputable def f_X8_order_L17_b (x0 : Int64) (x2 : Int64) (x4 : Int64) (x6 : Int64) (rc17 : (Int64 × Int64 × Int64 × Int64 × Int32) → Option (Int32)) (y8 : Int64) (y10 : Int64) (y12 : Int64) (y14 : Int64) (y16 : Int32) : Option (Int32) :=
  gd (¬ y10 = 0) (nm (y8 / y10) fun z2 =>
  gd (¬ y14 = 0) (nm (y12 / y14) fun z4 =>
  br ((lg_cmp z2 z4) = 0)
  (nm (y8 - (z2 * y10)) fun z6 =>
  nm (y12 - (z4 * y14)) fun z7 =>
  br ((lg_cmp z6 (0 : Int64)) = 0)
  (f_X8_order_J90 x0 x2 x4 x6 z6 z7 y16)
  (br ((lg_cmp z7 (0 : Int64)) = 0)
  (f_X8_order_J90 x0 x2 x4 x6 z6 z7 y16)
  (nm (-y16) fun z14 =>
  rc17 (y10, z6, y14, z7, z14))))
  (br ((lg_cmp z2 z4) ≤ 0)
  (some (-y16))
  (some y16))))
noncomputable def f_X8_order_L17 (x0 : Int64) (x2 : Int64) (x4 : Int64) (x6 : Int64) (k : Nat) : (Int64 × Int64 × Int64 × Int64 × Int32) → Option (Int32) := lp (fun rc v => f_X8_order_L17_b x0 x2 x4 x6 rc v.1 v.2.1 v.2.2.1 v.2.2.2.1 v.2.2.2.2) k
theorem f_X8_order_L17_s (x0 : Int64) (x2 : Int64) (x4 : Int64) (x6 : Int64) (k : Nat) (y8 : Int64) (y10 : Int64) (y12 : Int64) (y14 : Int64) (y16 : Int32) : f_X8_order_L17 x0 x2 x4 x6 (k + 1) (y8, y10, y12, y14, y16) = f_X8_order_L17_b x0 x2 x4 x6 (f_X8_order_L17 x0 x2 x4 x6 k) y8 y10 y12 y14 y16 := rfl
theorem f_X8_order_L17_0 (x0 : Int64) (x2 : Int64) (x4 : Int64) (x6 : Int64) (v : Int64 × Int64 × Int64 × Int64 × Int32) : f_X8_order_L17 x0 x2 x4 x6 0 v = none := rfl
noncomputable def f_X8_order (x0 : Int64) (x2 : Int64) (x4 : Int64) (x6 : Int64) : Option (Int32) :=
  f_X8_order_L17 x0 x2 x4 x6 FU (x0, x2, x4, x6, (1 : Int32))
noncomputable def f_X8_compare_J57 (x1 : Int32) (x2 : Int32) (cM_d : Nat → Int32) (y4 : Int64) (y6 : Int64) (t0 : Int32) (vM_up : Int64) (vM_down : Int64) (vM_sharesUp : Int64) (vM_sharesDown : Int64) (vM_onUp : Int64) (vM_onDown : Int64) (vM_great : Int32) (cM_found : Nat → Int32) (cM_path : Nat → Int32) (cM_comesUp : Nat → Int64) (cM_comesDown : Nat → Int64) : Option (Int32 × Int64 × Int64 × Int64 × Int64 × Int64 × Int64 × Int32 × (Nat → Int32) × (Nat → Int32) × (Nat → Int64) × (Nat → Int64)) :=
  br (t0 = 0)
  (bd (f_X8_finds (6 : Int32) cM_found) fun u9 =>
  some (u9.1, vM_up, vM_down, vM_sharesUp, vM_sharesDown, vM_onUp, vM_onDown, vM_great, u9.2, cM_path, cM_comesUp, cM_comesDown))
  (bd (f_X8_order y4 y6 vM_sharesUp vM_sharesDown) fun u10 =>
  some (u10, vM_up, vM_down, vM_sharesUp, vM_sharesDown, vM_onUp, vM_onDown, vM_great, cM_found, cM_path, cM_comesUp, cM_comesDown))
noncomputable def f_X8_compare (x1 : Int32) (x2 : Int32) (vM_up : Int64) (vM_down : Int64) (vM_sharesUp : Int64) (vM_sharesDown : Int64) (vM_onUp : Int64) (vM_onDown : Int64) (vM_great : Int32) (cM_d : Nat → Int32) (cM_found : Nat → Int32) (cM_path : Nat → Int32) (cM_comesUp : Nat → Int64) (cM_comesDown : Nat → Int64) : Option (Int32 × Int64 × Int64 × Int64 × Int64 × Int64 × Int64 × Int32 × (Nat → Int32) × (Nat → Int32) × (Nat → Int64) × (Nat → Int64)) :=
  bd (f_X8_isBasin x1 cM_d) fun u1 =>
  br (u1 = 0)
  (bd (f_X8_finds (0 : Int32) cM_found) fun u3 =>
  some (u3.1, vM_up, vM_down, vM_sharesUp, vM_sharesDown, vM_onUp, vM_onDown, vM_great, u3.2, cM_path, cM_comesUp, cM_comesDown))
  (bd (f_X8_isBasin x2 cM_d) fun u4 =>
  br (u4 = 0)
  (bd (f_X8_finds (0 : Int32) cM_found) fun u13 =>
  some (u13.1, vM_up, vM_down, vM_sharesUp, vM_sharesDown, vM_onUp, vM_onDown, vM_great, u13.2, cM_path, cM_comesUp, cM_comesDown))
  (bd (f_X8_isShare x1 vM_up vM_down vM_sharesUp vM_sharesDown vM_onUp vM_onDown vM_great cM_path cM_comesUp cM_comesDown cM_d) fun u6 =>
  bd (f_X8_isShare x2 u6.2.1 u6.2.2.1 u6.2.2.2.1 u6.2.2.2.2.1 u6.2.2.2.2.2.1 u6.2.2.2.2.2.2.1 u6.2.2.2.2.2.2.2.1 u6.2.2.2.2.2.2.2.2.1 u6.2.2.2.2.2.2.2.2.2.1 u6.2.2.2.2.2.2.2.2.2.2 cM_d) fun u7 =>
  br (u7.1 = 0)
  (f_X8_compare_J57 x1 x2 cM_d u6.2.2.2.1 u6.2.2.2.2.1 (0 : Int32) u7.2.1 u7.2.2.1 u7.2.2.2.1 u7.2.2.2.2.1 u7.2.2.2.2.2.1 u7.2.2.2.2.2.2.1 u7.2.2.2.2.2.2.2.1 cM_found u7.2.2.2.2.2.2.2.2.1 u7.2.2.2.2.2.2.2.2.2.1 u7.2.2.2.2.2.2.2.2.2.2)
  (br (u6.1 = 0)
  (f_X8_compare_J57 x1 x2 cM_d u6.2.2.2.1 u6.2.2.2.2.1 (0 : Int32) u7.2.1 u7.2.2.1 u7.2.2.2.1 u7.2.2.2.2.1 u7.2.2.2.2.2.1 u7.2.2.2.2.2.2.1 u7.2.2.2.2.2.2.2.1 cM_found u7.2.2.2.2.2.2.2.2.1 u7.2.2.2.2.2.2.2.2.2.1 u7.2.2.2.2.2.2.2.2.2.2)
  (f_X8_compare_J57 x1 x2 cM_d u6.2.2.2.1 u6.2.2.2.2.1 (1 : Int32) u7.2.1 u7.2.2.1 u7.2.2.2.1 u7.2.2.2.2.1 u7.2.2.2.2.2.1 u7.2.2.2.2.2.2.1 u7.2.2.2.2.2.2.2.1 cM_found u7.2.2.2.2.2.2.2.2.1 u7.2.2.2.2.2.2.2.2.2.1 u7.2.2.2.2.2.2.2.2.2.2))))
noncomputable def f_X8_extreme_J100 (x1 : Int32) (cM_d : Nat → Int32) (rc41 : (Int32 × Int64 × Int64 × Int32 × Int64 × Int64 × Int64 × Int64 × Int64 × Int64 × Int32 × (Nat → Int32) × (Nat → Int64) × (Nat → Int64) × (Nat → Int32)) → Option (Int32 × Int64 × Int64 × Int64 × Int64 × Int64 × Int64 × Int32 × (Nat → Int32) × (Nat → Int64) × (Nat → Int64) × (Nat → Int32))) (y2 : Int32) (y3 : Int64) (y5 : Int64) (y7 : Int32) (t0 : Int32) (vM_up : Int64) (vM_down : Int64) (vM_sharesUp : Int64) (vM_sharesDown : Int64) (vM_onUp : Int64) (vM_onDown : Int64) (vM_great : Int32) (cM_path : Nat → Int32) (cM_comesUp : Nat → Int64) (cM_comesDown : Nat → Int64) (cM_found : Nat → Int32) : Option (Int32 × Int64 × Int64 × Int64 × Int64 × Int64 × Int64 × Int32 × (Nat → Int32) × (Nat → Int64) × (Nat → Int64) × (Nat → Int32)) :=
  br (t0 ≤ 0)
  (rc41 (y2, y3, y5, (y7 + 1), vM_up, vM_down, vM_sharesUp, vM_sharesDown, vM_onUp, vM_onDown, vM_great, cM_path, cM_comesUp, cM_comesDown, cM_found))
  (rc41 (y7, vM_sharesUp, vM_sharesDown, (y7 + 1), vM_up, vM_down, vM_sharesUp, vM_sharesDown, vM_onUp, vM_onDown, vM_great, cM_path, cM_comesUp, cM_comesDown, cM_found))
noncomputable def f_X8_extreme_L41_b (x1 : Int32) (cM_d : Nat → Int32) (rc41 : (Int32 × Int64 × Int64 × Int32 × Int64 × Int64 × Int64 × Int64 × Int64 × Int64 × Int32 × (Nat → Int32) × (Nat → Int64) × (Nat → Int64) × (Nat → Int32)) → Option (Int32 × Int64 × Int64 × Int64 × Int64 × Int64 × Int64 × Int32 × (Nat → Int32) × (Nat → Int64) × (Nat → Int64) × (Nat → Int32))) (y2 : Int32) (y3 : Int64) (y5 : Int64) (y7 : Int32) (vM_up : Int64) (vM_down : Int64) (vM_sharesUp : Int64) (vM_sharesDown : Int64) (vM_onUp : Int64) (vM_onDown : Int64) (vM_great : Int32) (cM_path : Nat → Int32) (cM_comesUp : Nat → Int64) (cM_comesDown : Nat → Int64) (cM_found : Nat → Int32) : Option (Int32 × Int64 × Int64 × Int64 × Int64 × Int64 × Int64 × Int32 × (Nat → Int32) × (Nat → Int64) × (Nat → Int64) × (Nat → Int32)) :=
  br ((cM_d (0 : Int32).toNatClampNeg) ≤ y7)
  (some (y2, vM_up, vM_down, vM_sharesUp, vM_sharesDown, vM_onUp, vM_onDown, vM_great, cM_path, cM_comesUp, cM_comesDown, cM_found))
  (bd (f_X8_isShare y7 vM_up vM_down vM_sharesUp vM_sharesDown vM_onUp vM_onDown vM_great cM_path cM_comesUp cM_comesDown cM_d) fun u5 =>
  br (u5.1 = 0)
  (bd (f_X8_finds (6 : Int32) cM_found) fun u11 =>
  some (u11.1, u5.2.1, u5.2.2.1, u5.2.2.2.1, u5.2.2.2.2.1, u5.2.2.2.2.2.1, u5.2.2.2.2.2.2.1, u5.2.2.2.2.2.2.2.1, u5.2.2.2.2.2.2.2.2.1, u5.2.2.2.2.2.2.2.2.2.1, u5.2.2.2.2.2.2.2.2.2.2, u11.2))
  (br (0 ≤ y2)
  (bd (f_X8_order u5.2.2.2.1 u5.2.2.2.2.1 y3 y5) fun u9 =>
  br (x1 = 0)
  (f_X8_extreme_J100 x1 cM_d rc41 y2 y3 y5 y7 (u9 * (1 : Int32)) u5.2.1 u5.2.2.1 u5.2.2.2.1 u5.2.2.2.2.1 u5.2.2.2.2.2.1 u5.2.2.2.2.2.2.1 u5.2.2.2.2.2.2.2.1 u5.2.2.2.2.2.2.2.2.1 u5.2.2.2.2.2.2.2.2.2.1 u5.2.2.2.2.2.2.2.2.2.2 cM_found)
  (f_X8_extreme_J100 x1 cM_d rc41 y2 y3 y5 y7 (u9 * (-1 : Int32)) u5.2.1 u5.2.2.1 u5.2.2.2.1 u5.2.2.2.2.1 u5.2.2.2.2.2.1 u5.2.2.2.2.2.2.1 u5.2.2.2.2.2.2.2.1 u5.2.2.2.2.2.2.2.2.1 u5.2.2.2.2.2.2.2.2.2.1 u5.2.2.2.2.2.2.2.2.2.2 cM_found))
  (f_X8_extreme_J100 x1 cM_d rc41 y2 y3 y5 y7 (1 : Int32) u5.2.1 u5.2.2.1 u5.2.2.2.1 u5.2.2.2.2.1 u5.2.2.2.2.2.1 u5.2.2.2.2.2.2.1 u5.2.2.2.2.2.2.2.1 u5.2.2.2.2.2.2.2.2.1 u5.2.2.2.2.2.2.2.2.2.1 u5.2.2.2.2.2.2.2.2.2.2 cM_found)))
noncomputable def f_X8_extreme_L41 (x1 : Int32) (cM_d : Nat → Int32) (k : Nat) : (Int32 × Int64 × Int64 × Int32 × Int64 × Int64 × Int64 × Int64 × Int64 × Int64 × Int32 × (Nat → Int32) × (Nat → Int64) × (Nat → Int64) × (Nat → Int32)) → Option (Int32 × Int64 × Int64 × Int64 × Int64 × Int64 × Int64 × Int32 × (Nat → Int32) × (Nat → Int64) × (Nat → Int64) × (Nat → Int32)) := lp (fun rc v => f_X8_extreme_L41_b x1 cM_d rc v.1 v.2.1 v.2.2.1 v.2.2.2.1 v.2.2.2.2.1 v.2.2.2.2.2.1 v.2.2.2.2.2.2.1 v.2.2.2.2.2.2.2.1 v.2.2.2.2.2.2.2.2.1 v.2.2.2.2.2.2.2.2.2.1 v.2.2.2.2.2.2.2.2.2.2.1 v.2.2.2.2.2.2.2.2.2.2.2.1 v.2.2.2.2.2.2.2.2.2.2.2.2.1 v.2.2.2.2.2.2.2.2.2.2.2.2.2.1 v.2.2.2.2.2.2.2.2.2.2.2.2.2.2) k
theorem f_X8_extreme_L41_s (x1 : Int32) (cM_d : Nat → Int32) (k : Nat) (y2 : Int32) (y3 : Int64) (y5 : Int64) (y7 : Int32) (vM_up : Int64) (vM_down : Int64) (vM_sharesUp : Int64) (vM_sharesDown : Int64) (vM_onUp : Int64) (vM_onDown : Int64) (vM_great : Int32) (cM_path : Nat → Int32) (cM_comesUp : Nat → Int64) (cM_comesDown : Nat → Int64) (cM_found : Nat → Int32) : f_X8_extreme_L41 x1 cM_d (k + 1) (y2, y3, y5, y7, vM_up, vM_down, vM_sharesUp, vM_sharesDown, vM_onUp, vM_onDown, vM_great, cM_path, cM_comesUp, cM_comesDown, cM_found) = f_X8_extreme_L41_b x1 cM_d (f_X8_extreme_L41 x1 cM_d k) y2 y3 y5 y7 vM_up vM_down vM_sharesUp vM_sharesDown vM_onUp vM_onDown vM_great cM_path cM_comesUp cM_comesDown cM_found := rfl
theorem f_X8_extreme_L41_0 (x1 : Int32) (cM_d : Nat → Int32) (v : Int32 × Int64 × Int64 × Int32 × Int64 × Int64 × Int64 × Int64 × Int64 × Int64 × Int32 × (Nat → Int32) × (Nat → Int64) × (Nat → Int64) × (Nat → Int32)) : f_X8_extreme_L41 x1 cM_d 0 v = none := rfl
noncomputable def f_X8_extreme (x1 : Int32) (vM_up : Int64) (vM_down : Int64) (vM_sharesUp : Int64) (vM_sharesDown : Int64) (vM_onUp : Int64) (vM_onDown : Int64) (vM_great : Int32) (cM_d : Nat → Int32) (cM_path : Nat → Int32) (cM_comesUp : Nat → Int64) (cM_comesDown : Nat → Int64) (cM_found : Nat → Int32) : Option (Int32 × Int64 × Int64 × Int64 × Int64 × Int64 × Int64 × Int32 × (Nat → Int32) × (Nat → Int64) × (Nat → Int64) × (Nat → Int32)) :=
  bd (f_X8_in x1.toInt64 (0 : Int64) (1 : Int64)) fun u1 =>
  br (u1 = 0)
  (bd (f_X8_finds (0 : Int32) cM_found) fun u13 =>
  some (u13.1, vM_up, vM_down, vM_sharesUp, vM_sharesDown, vM_onUp, vM_onDown, vM_great, cM_path, cM_comesUp, cM_comesDown, u13.2))
  (br ((cM_d (0 : Int32).toNatClampNeg) = 0)
  (bd (f_X8_finds (3 : Int32) cM_found) fun u12 =>
  some (u12.1, vM_up, vM_down, vM_sharesUp, vM_sharesDown, vM_onUp, vM_onDown, vM_great, cM_path, cM_comesUp, cM_comesDown, u12.2))
  (f_X8_extreme_L41 x1 cM_d FU ((-1 : Int32), (0 : Int64), (1 : Int64), (0 : Int32), vM_up, vM_down, vM_sharesUp, vM_sharesDown, vM_onUp, vM_onDown, vM_great, cM_path, cM_comesUp, cM_comesDown, cM_found)))
noncomputable def f_X8_isAllKept_L6_b (x1 : Int32) (cM_d : Nat → Int32) (rc6 : (Int32 × Int32 × Int32 × Int32 × (Nat → Int32) × (Nat → Int32) × (Nat → Int32) × (Nat → Int32)) → Option (Int32 × Int32 × Int32 × Int32 × (Nat → Int32) × (Nat → Int32) × (Nat → Int32) × (Nat → Int32))) (y2 : Int32) (vM_leaked : Int32) (vM_keptAll : Int32) (vM_offAll : Int32) (cM_came : Nat → Int32) (cM_got : Nat → Int32) (cM_held : Nat → Int32) (cM_off : Nat → Int32) : Option (Int32 × Int32 × Int32 × Int32 × (Nat → Int32) × (Nat → Int32) × (Nat → Int32) × (Nat → Int32)) :=
  br ((cM_d (0 : Int32).toNatClampNeg) ≤ y2)
  (some ((1 : Int32), vM_leaked, vM_keptAll, vM_offAll, cM_came, cM_got, cM_held, cM_off))
  (gd (vp_in y2 10) (br (x1 ≤ (cM_got y2.toNatClampNeg))
  (rc6 ((y2 + 1), vM_leaked, vM_keptAll, vM_offAll, cM_came, cM_got, cM_held, cM_off))
  (some ((0 : Int32), vM_leaked, vM_keptAll, vM_offAll, cM_came, cM_got, cM_held, cM_off))))
noncomputable def f_X8_isAllKept_L6 (x1 : Int32) (cM_d : Nat → Int32) (k : Nat) : (Int32 × Int32 × Int32 × Int32 × (Nat → Int32) × (Nat → Int32) × (Nat → Int32) × (Nat → Int32)) → Option (Int32 × Int32 × Int32 × Int32 × (Nat → Int32) × (Nat → Int32) × (Nat → Int32) × (Nat → Int32)) := lp (fun rc v => f_X8_isAllKept_L6_b x1 cM_d rc v.1 v.2.1 v.2.2.1 v.2.2.2.1 v.2.2.2.2.1 v.2.2.2.2.2.1 v.2.2.2.2.2.2.1 v.2.2.2.2.2.2.2) k
theorem f_X8_isAllKept_L6_s (x1 : Int32) (cM_d : Nat → Int32) (k : Nat) (y2 : Int32) (vM_leaked : Int32) (vM_keptAll : Int32) (vM_offAll : Int32) (cM_came : Nat → Int32) (cM_got : Nat → Int32) (cM_held : Nat → Int32) (cM_off : Nat → Int32) : f_X8_isAllKept_L6 x1 cM_d (k + 1) (y2, vM_leaked, vM_keptAll, vM_offAll, cM_came, cM_got, cM_held, cM_off) = f_X8_isAllKept_L6_b x1 cM_d (f_X8_isAllKept_L6 x1 cM_d k) y2 vM_leaked vM_keptAll vM_offAll cM_came cM_got cM_held cM_off := rfl
theorem f_X8_isAllKept_L6_0 (x1 : Int32) (cM_d : Nat → Int32) (v : Int32 × Int32 × Int32 × Int32 × (Nat → Int32) × (Nat → Int32) × (Nat → Int32) × (Nat → Int32)) : f_X8_isAllKept_L6 x1 cM_d 0 v = none := rfl
noncomputable def f_X8_isAllKept (x1 : Int32) (vM_leaked : Int32) (vM_keptAll : Int32) (vM_offAll : Int32) (cM_d : Nat → Int32) (cM_came : Nat → Int32) (cM_got : Nat → Int32) (cM_held : Nat → Int32) (cM_off : Nat → Int32) : Option (Int32 × Int32 × Int32 × Int32 × (Nat → Int32) × (Nat → Int32) × (Nat → Int32) × (Nat → Int32)) :=
  bd (f_X8_look vM_leaked vM_keptAll vM_offAll cM_d cM_came cM_got cM_held cM_off) fun u1 =>
  f_X8_isAllKept_L6 x1 cM_d FU ((0 : Int32), u1.1, u1.2.1, u1.2.2.1, u1.2.2.2.1, u1.2.2.2.2.1, u1.2.2.2.2.2.1, u1.2.2.2.2.2.2)
noncomputable def f_X8_needs_J142 (x1 : Int32) (y3 : Int32) (y4 : Int32) (vM_leaked : Int32) (vM_keptAll : Int32) (vM_offAll : Int32) (cM_d : Nat → Int32) (cM_e : Nat → Int32) (cM_came : Nat → Int32) (cM_got : Nat → Int32) (cM_held : Nat → Int32) (cM_off : Nat → Int32) (cM_found : Nat → Int32) : Option (Int32 × Int32 × Int32 × Int32 × (Nat → Int32) × (Nat → Int32) × (Nat → Int32) × (Nat → Int32) × (Nat → Int32) × (Nat → Int32) × (Nat → Int32)) :=
  bd (f_X8_copies cM_e cM_d) fun u6 =>
  br (y4 = 0)
  (bd (f_X8_finds (3 : Int32) cM_found) fun u8 =>
  some (u8.1, vM_leaked, vM_keptAll, vM_offAll, u6, cM_e, cM_came, cM_got, cM_held, cM_off, u8.2))
  (some (y3, vM_leaked, vM_keptAll, vM_offAll, u6, cM_e, cM_came, cM_got, cM_held, cM_off, cM_found))
noncomputable def f_X8_needs_L97_b (x1 : Int32) (rc97 : (Int32 × Int32 × Int32 × Int32 × Int32 × Int32 × (Nat → Int32) × (Nat → Int32) × (Nat → Int32) × (Nat → Int32) × (Nat → Int32) × (Nat → Int32) × (Nat → Int32)) → Option (Int32 × Int32 × Int32 × Int32 × (Nat → Int32) × (Nat → Int32) × (Nat → Int32) × (Nat → Int32) × (Nat → Int32) × (Nat → Int32) × (Nat → Int32))) (y2 : Int32) (y3 : Int32) (y4 : Int32) (vM_leaked : Int32) (vM_keptAll : Int32) (vM_offAll : Int32) (cM_d : Nat → Int32) (cM_e : Nat → Int32) (cM_came : Nat → Int32) (cM_got : Nat → Int32) (cM_held : Nat → Int32) (cM_off : Nat → Int32) (cM_found : Nat → Int32) : Option (Int32 × Int32 × Int32 × Int32 × (Nat → Int32) × (Nat → Int32) × (Nat → Int32) × (Nat → Int32) × (Nat → Int32) × (Nat → Int32) × (Nat → Int32)) :=
  br (y2 = 0)
  (br (y4 = 0)
  (br ((99999 : Int32) < y3)
  (f_X8_needs_J142 x1 y3 y4 vM_leaked vM_keptAll vM_offAll cM_d cM_e cM_came cM_got cM_held cM_off cM_found)
  (bd (f_X8_isAllKept x1 vM_leaked vM_keptAll vM_offAll (upd cM_d (3 : Int32).toNatClampNeg y3) cM_came cM_got cM_held cM_off) fun u12 =>
  br (u12.1 = 0)
  (nm (y3 + (1 : Int32)) fun z14 =>
  rc97 (y2, z14, u12.1, u12.2.1, u12.2.2.1, u12.2.2.2.1, (upd cM_d (3 : Int32).toNatClampNeg y3), cM_e, u12.2.2.2.2.1, u12.2.2.2.2.2.1, u12.2.2.2.2.2.2.1, u12.2.2.2.2.2.2.2, cM_found))
  (nm (y3 + (0 : Int32)) fun z15 =>
  rc97 (y2, z15, u12.1, u12.2.1, u12.2.2.1, u12.2.2.2.1, (upd cM_d (3 : Int32).toNatClampNeg y3), cM_e, u12.2.2.2.2.1, u12.2.2.2.2.2.1, u12.2.2.2.2.2.2.1, u12.2.2.2.2.2.2.2, cM_found))))
  (f_X8_needs_J142 x1 y3 y4 vM_leaked vM_keptAll vM_offAll cM_d cM_e cM_came cM_got cM_held cM_off cM_found))
  (f_X8_needs_J142 x1 y3 y4 vM_leaked vM_keptAll vM_offAll cM_d cM_e cM_came cM_got cM_held cM_off cM_found)
noncomputable def f_X8_needs_L97 (x1 : Int32) (k : Nat) : (Int32 × Int32 × Int32 × Int32 × Int32 × Int32 × (Nat → Int32) × (Nat → Int32) × (Nat → Int32) × (Nat → Int32) × (Nat → Int32) × (Nat → Int32) × (Nat → Int32)) → Option (Int32 × Int32 × Int32 × Int32 × (Nat → Int32) × (Nat → Int32) × (Nat → Int32) × (Nat → Int32) × (Nat → Int32) × (Nat → Int32) × (Nat → Int32)) := lp (fun rc v => f_X8_needs_L97_b x1 rc v.1 v.2.1 v.2.2.1 v.2.2.2.1 v.2.2.2.2.1 v.2.2.2.2.2.1 v.2.2.2.2.2.2.1 v.2.2.2.2.2.2.2.1 v.2.2.2.2.2.2.2.2.1 v.2.2.2.2.2.2.2.2.2.1 v.2.2.2.2.2.2.2.2.2.2.1 v.2.2.2.2.2.2.2.2.2.2.2.1 v.2.2.2.2.2.2.2.2.2.2.2.2) k
theorem f_X8_needs_L97_s (x1 : Int32) (k : Nat) (y2 : Int32) (y3 : Int32) (y4 : Int32) (vM_leaked : Int32) (vM_keptAll : Int32) (vM_offAll : Int32) (cM_d : Nat → Int32) (cM_e : Nat → Int32) (cM_came : Nat → Int32) (cM_got : Nat → Int32) (cM_held : Nat → Int32) (cM_off : Nat → Int32) (cM_found : Nat → Int32) : f_X8_needs_L97 x1 (k + 1) (y2, y3, y4, vM_leaked, vM_keptAll, vM_offAll, cM_d, cM_e, cM_came, cM_got, cM_held, cM_off, cM_found) = f_X8_needs_L97_b x1 (f_X8_needs_L97 x1 k) y2 y3 y4 vM_leaked vM_keptAll vM_offAll cM_d cM_e cM_came cM_got cM_held cM_off cM_found := rfl
theorem f_X8_needs_L97_0 (x1 : Int32) (v : Int32 × Int32 × Int32 × Int32 × Int32 × Int32 × (Nat → Int32) × (Nat → Int32) × (Nat → Int32) × (Nat → Int32) × (Nat → Int32) × (Nat → Int32) × (Nat → Int32)) : f_X8_needs_L97 x1 0 v = none := rfl
noncomputable def f_X8_needs_L48_b (x1 : Int32) (rc48 : (Int32 × Int32 × Int32 × Int32 × Int32 × (Nat → Int32) × (Nat → Int32) × (Nat → Int32) × (Nat → Int32) × (Nat → Int32) × (Nat → Int32) × (Nat → Int32)) → Option (Int32 × Int32 × Int32 × Int32 × (Nat → Int32) × (Nat → Int32) × (Nat → Int32) × (Nat → Int32) × (Nat → Int32) × (Nat → Int32) × (Nat → Int32))) (y2 : Int32) (y3 : Int32) (vM_leaked : Int32) (vM_keptAll : Int32) (vM_offAll : Int32) (cM_d : Nat → Int32) (cM_e : Nat → Int32) (cM_came : Nat → Int32) (cM_got : Nat → Int32) (cM_held : Nat → Int32) (cM_off : Nat → Int32) (cM_found : Nat → Int32) : Option (Int32 × Int32 × Int32 × Int32 × (Nat → Int32) × (Nat → Int32) × (Nat → Int32) × (Nat → Int32) × (Nat → Int32) × (Nat → Int32) × (Nat → Int32)) :=
  br ((cM_d (0 : Int32).toNatClampNeg) ≤ y3)
  (f_X8_needs_L97 x1 FU (y2, (1 : Int32), (0 : Int32), vM_leaked, vM_keptAll, vM_offAll, cM_d, cM_e, cM_came, cM_got, cM_held, cM_off, cM_found))
  (bd (f_X8_sets y3 (3 : Int32) (30 : Int32) cM_d) fun u16 =>
  br (y2 = 0)
  (bd (f_X8_its y3 (0 : Int32) u16) fun u18 =>
  br (u18 = (3 : Int32))
  (rc48 ((1 : Int32), (y3 + 1), vM_leaked, vM_keptAll, vM_offAll, u16, cM_e, cM_came, cM_got, cM_held, cM_off, cM_found))
  (rc48 ((0 : Int32), (y3 + 1), vM_leaked, vM_keptAll, vM_offAll, u16, cM_e, cM_came, cM_got, cM_held, cM_off, cM_found)))
  (rc48 ((1 : Int32), (y3 + 1), vM_leaked, vM_keptAll, vM_offAll, u16, cM_e, cM_came, cM_got, cM_held, cM_off, cM_found)))
noncomputable def f_X8_needs_L48 (x1 : Int32) (k : Nat) : (Int32 × Int32 × Int32 × Int32 × Int32 × (Nat → Int32) × (Nat → Int32) × (Nat → Int32) × (Nat → Int32) × (Nat → Int32) × (Nat → Int32) × (Nat → Int32)) → Option (Int32 × Int32 × Int32 × Int32 × (Nat → Int32) × (Nat → Int32) × (Nat → Int32) × (Nat → Int32) × (Nat → Int32) × (Nat → Int32) × (Nat → Int32)) := lp (fun rc v => f_X8_needs_L48_b x1 rc v.1 v.2.1 v.2.2.1 v.2.2.2.1 v.2.2.2.2.1 v.2.2.2.2.2.1 v.2.2.2.2.2.2.1 v.2.2.2.2.2.2.2.1 v.2.2.2.2.2.2.2.2.1 v.2.2.2.2.2.2.2.2.2.1 v.2.2.2.2.2.2.2.2.2.2.1 v.2.2.2.2.2.2.2.2.2.2.2) k
theorem f_X8_needs_L48_s (x1 : Int32) (k : Nat) (y2 : Int32) (y3 : Int32) (vM_leaked : Int32) (vM_keptAll : Int32) (vM_offAll : Int32) (cM_d : Nat → Int32) (cM_e : Nat → Int32) (cM_came : Nat → Int32) (cM_got : Nat → Int32) (cM_held : Nat → Int32) (cM_off : Nat → Int32) (cM_found : Nat → Int32) : f_X8_needs_L48 x1 (k + 1) (y2, y3, vM_leaked, vM_keptAll, vM_offAll, cM_d, cM_e, cM_came, cM_got, cM_held, cM_off, cM_found) = f_X8_needs_L48_b x1 (f_X8_needs_L48 x1 k) y2 y3 vM_leaked vM_keptAll vM_offAll cM_d cM_e cM_came cM_got cM_held cM_off cM_found := rfl
theorem f_X8_needs_L48_0 (x1 : Int32) (v : Int32 × Int32 × Int32 × Int32 × Int32 × (Nat → Int32) × (Nat → Int32) × (Nat → Int32) × (Nat → Int32) × (Nat → Int32) × (Nat → Int32) × (Nat → Int32)) : f_X8_needs_L48 x1 0 v = none := rfl
noncomputable def f_X8_needs (x1 : Int32) (vM_leaked : Int32) (vM_keptAll : Int32) (vM_offAll : Int32) (cM_d : Nat → Int32) (cM_e : Nat → Int32) (cM_came : Nat → Int32) (cM_got : Nat → Int32) (cM_held : Nat → Int32) (cM_off : Nat → Int32) (cM_found : Nat → Int32) : Option (Int32 × Int32 × Int32 × Int32 × (Nat → Int32) × (Nat → Int32) × (Nat → Int32) × (Nat → Int32) × (Nat → Int32) × (Nat → Int32) × (Nat → Int32)) :=
  bd (f_X8_in x1.toInt64 (1 : Int64) (99 : Int64)) fun u1 =>
  br (u1 = 0)
  (bd (f_X8_finds (0 : Int32) cM_found) fun u21 =>
  some (u21.1, vM_leaked, vM_keptAll, vM_offAll, cM_d, cM_e, cM_came, cM_got, cM_held, cM_off, u21.2))
  (br ((cM_d (0 : Int32).toNatClampNeg) = 0)
  (bd (f_X8_finds (4 : Int32) cM_found) fun u20 =>
  some (u20.1, vM_leaked, vM_keptAll, vM_offAll, cM_d, cM_e, cM_came, cM_got, cM_held, cM_off, u20.2))
  (bd (f_X8_copies cM_d cM_e) fun u4 =>
  f_X8_needs_L48 x1 FU ((0 : Int32), (0 : Int32), vM_leaked, vM_keptAll, vM_offAll, cM_d, u4, cM_came, cM_got, cM_held, cM_off, cM_found)))
noncomputable def f_X8_isEven_L6_b (cM_d : Nat → Int32) (rc6 : (Int32 × Int32 × Int32 × Int32 × (Nat → Int32) × (Nat → Int32) × (Nat → Int32) × (Nat → Int32)) → Option (Int32 × Int32 × Int32 × Int32 × (Nat → Int32) × (Nat → Int32) × (Nat → Int32) × (Nat → Int32))) (y1 : Int32) (vM_leaked : Int32) (vM_keptAll : Int32) (vM_offAll : Int32) (cM_came : Nat → Int32) (cM_got : Nat → Int32) (cM_held : Nat → Int32) (cM_off : Nat → Int32) : Option (Int32 × Int32 × Int32 × Int32 × (Nat → Int32) × (Nat → Int32) × (Nat → Int32) × (Nat → Int32)) :=
  br ((cM_d (0 : Int32).toNatClampNeg) ≤ y1)
  (some ((1 : Int32), vM_leaked, vM_keptAll, vM_offAll, cM_came, cM_got, cM_held, cM_off))
  (gd (vp_in y1 10) (br ((cM_off y1.toNatClampNeg) ≤ 0)
  (rc6 ((y1 + 1), vM_leaked, vM_keptAll, vM_offAll, cM_came, cM_got, cM_held, cM_off))
  (bd (f_X8_edgesBelow y1 cM_d) fun u5 =>
  br (u5 ≤ 0)
  (rc6 ((y1 + 1), vM_leaked, vM_keptAll, vM_offAll, cM_came, cM_got, cM_held, cM_off))
  (some ((0 : Int32), vM_leaked, vM_keptAll, vM_offAll, cM_came, cM_got, cM_held, cM_off)))))
noncomputable def f_X8_isEven_L6 (cM_d : Nat → Int32) (k : Nat) : (Int32 × Int32 × Int32 × Int32 × (Nat → Int32) × (Nat → Int32) × (Nat → Int32) × (Nat → Int32)) → Option (Int32 × Int32 × Int32 × Int32 × (Nat → Int32) × (Nat → Int32) × (Nat → Int32) × (Nat → Int32)) := lp (fun rc v => f_X8_isEven_L6_b cM_d rc v.1 v.2.1 v.2.2.1 v.2.2.2.1 v.2.2.2.2.1 v.2.2.2.2.2.1 v.2.2.2.2.2.2.1 v.2.2.2.2.2.2.2) k
theorem f_X8_isEven_L6_s (cM_d : Nat → Int32) (k : Nat) (y1 : Int32) (vM_leaked : Int32) (vM_keptAll : Int32) (vM_offAll : Int32) (cM_came : Nat → Int32) (cM_got : Nat → Int32) (cM_held : Nat → Int32) (cM_off : Nat → Int32) : f_X8_isEven_L6 cM_d (k + 1) (y1, vM_leaked, vM_keptAll, vM_offAll, cM_came, cM_got, cM_held, cM_off) = f_X8_isEven_L6_b cM_d (f_X8_isEven_L6 cM_d k) y1 vM_leaked vM_keptAll vM_offAll cM_came cM_got cM_held cM_off := rfl
theorem f_X8_isEven_L6_0 (cM_d : Nat → Int32) (v : Int32 × Int32 × Int32 × Int32 × (Nat → Int32) × (Nat → Int32) × (Nat → Int32) × (Nat → Int32)) : f_X8_isEven_L6 cM_d 0 v = none := rfl
noncomputable def f_X8_isEven (vM_leaked : Int32) (vM_keptAll : Int32) (vM_offAll : Int32) (cM_d : Nat → Int32) (cM_came : Nat → Int32) (cM_got : Nat → Int32) (cM_held : Nat → Int32) (cM_off : Nat → Int32) : Option (Int32 × Int32 × Int32 × Int32 × (Nat → Int32) × (Nat → Int32) × (Nat → Int32) × (Nat → Int32)) :=
  bd (f_X8_look vM_leaked vM_keptAll vM_offAll cM_d cM_came cM_got cM_held cM_off) fun u1 =>
  f_X8_isEven_L6 cM_d FU ((0 : Int32), u1.1, u1.2.1, u1.2.2.1, u1.2.2.2.1, u1.2.2.2.2.1, u1.2.2.2.2.2.1, u1.2.2.2.2.2.2)
noncomputable def f_X8_even_J64 (y1 : Int32) (y2 : Int32) (y3 : Int32) (vM_leaked : Int32) (vM_keptAll : Int32) (vM_offAll : Int32) (cM_d : Nat → Int32) (cM_came : Nat → Int32) (cM_got : Nat → Int32) (cM_held : Nat → Int32) (cM_off : Nat → Int32) (cM_found : Nat → Int32) : Option (Int32 × Int32 × Int32 × Int32 × (Nat → Int32) × (Nat → Int32) × (Nat → Int32) × (Nat → Int32) × (Nat → Int32) × (Nat → Int32)) :=
  br (y3 = 0)
  (bd (f_X8_finds (3 : Int32) cM_found) fun u4 =>
  some (u4.1, vM_leaked, vM_keptAll, vM_offAll, (upd cM_d (3 : Int32).toNatClampNeg y1), cM_came, cM_got, cM_held, cM_off, u4.2))
  (some (y2, vM_leaked, vM_keptAll, vM_offAll, (upd cM_d (3 : Int32).toNatClampNeg y1), cM_came, cM_got, cM_held, cM_off, cM_found))
noncomputable def f_X8_even_L26_b (rc26 : (Int32 × Int32 × Int32 × Int32 × Int32 × Int32 × (Nat → Int32) × (Nat → Int32) × (Nat → Int32) × (Nat → Int32) × (Nat → Int32) × (Nat → Int32)) → Option (Int32 × Int32 × Int32 × Int32 × (Nat → Int32) × (Nat → Int32) × (Nat → Int32) × (Nat → Int32) × (Nat → Int32) × (Nat → Int32))) (y1 : Int32) (y2 : Int32) (y3 : Int32) (vM_leaked : Int32) (vM_keptAll : Int32) (vM_offAll : Int32) (cM_d : Nat → Int32) (cM_came : Nat → Int32) (cM_got : Nat → Int32) (cM_held : Nat → Int32) (cM_off : Nat → Int32) (cM_found : Nat → Int32) : Option (Int32 × Int32 × Int32 × Int32 × (Nat → Int32) × (Nat → Int32) × (Nat → Int32) × (Nat → Int32) × (Nat → Int32) × (Nat → Int32)) :=
  br (y3 = 0)
  (br ((9999 : Int32) < y2)
  (f_X8_even_J64 y1 y2 y3 vM_leaked vM_keptAll vM_offAll cM_d cM_came cM_got cM_held cM_off cM_found)
  (bd (f_X8_isEven vM_leaked vM_keptAll vM_offAll (upd cM_d (3 : Int32).toNatClampNeg y2) cM_came cM_got cM_held cM_off) fun u7 =>
  br (u7.1 = 0)
  (nm (y2 + (1 : Int32)) fun z9 =>
  rc26 (y1, z9, u7.1, u7.2.1, u7.2.2.1, u7.2.2.2.1, (upd cM_d (3 : Int32).toNatClampNeg y2), u7.2.2.2.2.1, u7.2.2.2.2.2.1, u7.2.2.2.2.2.2.1, u7.2.2.2.2.2.2.2, cM_found))
  (nm (y2 + (0 : Int32)) fun z10 =>
  rc26 (y1, z10, u7.1, u7.2.1, u7.2.2.1, u7.2.2.2.1, (upd cM_d (3 : Int32).toNatClampNeg y2), u7.2.2.2.2.1, u7.2.2.2.2.2.1, u7.2.2.2.2.2.2.1, u7.2.2.2.2.2.2.2, cM_found))))
  (f_X8_even_J64 y1 y2 y3 vM_leaked vM_keptAll vM_offAll cM_d cM_came cM_got cM_held cM_off cM_found)
noncomputable def f_X8_even_L26 (k : Nat) : (Int32 × Int32 × Int32 × Int32 × Int32 × Int32 × (Nat → Int32) × (Nat → Int32) × (Nat → Int32) × (Nat → Int32) × (Nat → Int32) × (Nat → Int32)) → Option (Int32 × Int32 × Int32 × Int32 × (Nat → Int32) × (Nat → Int32) × (Nat → Int32) × (Nat → Int32) × (Nat → Int32) × (Nat → Int32)) := lp (fun rc v => f_X8_even_L26_b  rc v.1 v.2.1 v.2.2.1 v.2.2.2.1 v.2.2.2.2.1 v.2.2.2.2.2.1 v.2.2.2.2.2.2.1 v.2.2.2.2.2.2.2.1 v.2.2.2.2.2.2.2.2.1 v.2.2.2.2.2.2.2.2.2.1 v.2.2.2.2.2.2.2.2.2.2.1 v.2.2.2.2.2.2.2.2.2.2.2) k
theorem f_X8_even_L26_s (k : Nat) (y1 : Int32) (y2 : Int32) (y3 : Int32) (vM_leaked : Int32) (vM_keptAll : Int32) (vM_offAll : Int32) (cM_d : Nat → Int32) (cM_came : Nat → Int32) (cM_got : Nat → Int32) (cM_held : Nat → Int32) (cM_off : Nat → Int32) (cM_found : Nat → Int32) : f_X8_even_L26  (k + 1) (y1, y2, y3, vM_leaked, vM_keptAll, vM_offAll, cM_d, cM_came, cM_got, cM_held, cM_off, cM_found) = f_X8_even_L26_b  (f_X8_even_L26  k) y1 y2 y3 vM_leaked vM_keptAll vM_offAll cM_d cM_came cM_got cM_held cM_off cM_found := rfl
theorem f_X8_even_L26_0 (v : Int32 × Int32 × Int32 × Int32 × Int32 × Int32 × (Nat → Int32) × (Nat → Int32) × (Nat → Int32) × (Nat → Int32) × (Nat → Int32) × (Nat → Int32)) : f_X8_even_L26  0 v = none := rfl
noncomputable def f_X8_even (vM_leaked : Int32) (vM_keptAll : Int32) (vM_offAll : Int32) (cM_d : Nat → Int32) (cM_came : Nat → Int32) (cM_got : Nat → Int32) (cM_held : Nat → Int32) (cM_off : Nat → Int32) (cM_found : Nat → Int32) : Option (Int32 × Int32 × Int32 × Int32 × (Nat → Int32) × (Nat → Int32) × (Nat → Int32) × (Nat → Int32) × (Nat → Int32) × (Nat → Int32)) :=
  br ((cM_d (0 : Int32).toNatClampNeg) = 0)
  (bd (f_X8_finds (4 : Int32) cM_found) fun u11 =>
  some (u11.1, vM_leaked, vM_keptAll, vM_offAll, cM_d, cM_came, cM_got, cM_held, cM_off, u11.2))
  (nm (cM_d (3 : Int32).toNatClampNeg) fun z2 =>
  f_X8_even_L26 FU (z2, (1 : Int32), (0 : Int32), vM_leaked, vM_keptAll, vM_offAll, cM_d, cM_came, cM_got, cM_held, cM_off, cM_found))
noncomputable def f_X8_isLate (x1 : Int32) (cM_d : Nat → Int32) : Option (Int32) :=
  br (((cM_d (1 : Int32).toNatClampNeg) + x1) ≤ (9999 : Int32))
  (some (0 : Int32))
  (some (1 : Int32))
noncomputable def f_X8_goOn_L4_b (x1 : Int32) (rc4 : (Int32 × Int32 × Int32 × Int32 × Int32 × (Nat → Int32) × (Nat → Int32) × (Nat → Int32) × (Nat → Int32) × (Nat → Int32)) → Option (Int32 × Int32 × Int32 × Int32 × (Nat → Int32) × (Nat → Int32) × (Nat → Int32) × (Nat → Int32) × (Nat → Int32))) (y2 : Int32) (y3 : Int32) (vM_leaked : Int32) (vM_keptAll : Int32) (vM_offAll : Int32) (cM_d : Nat → Int32) (cM_came : Nat → Int32) (cM_got : Nat → Int32) (cM_held : Nat → Int32) (cM_off : Nat → Int32) : Option (Int32 × Int32 × Int32 × Int32 × (Nat → Int32) × (Nat → Int32) × (Nat → Int32) × (Nat → Int32) × (Nat → Int32)) :=
  br (x1 ≤ y3)
  (some (y2, vM_leaked, vM_keptAll, vM_offAll, cM_d, cM_came, cM_got, cM_held, cM_off))
  (bd (f_X8_anHour vM_leaked vM_keptAll vM_offAll cM_d cM_came cM_got cM_held cM_off) fun u2 =>
  nm (y2 + u2.2.1) fun z3 =>
  rc4 (z3, (y3 + 1), u2.1, u2.2.1, u2.2.2.1, u2.2.2.2.1, u2.2.2.2.2.1, u2.2.2.2.2.2.1, u2.2.2.2.2.2.2.1, u2.2.2.2.2.2.2.2))
noncomputable def f_X8_goOn_L4 (x1 : Int32) (k : Nat) : (Int32 × Int32 × Int32 × Int32 × Int32 × (Nat → Int32) × (Nat → Int32) × (Nat → Int32) × (Nat → Int32) × (Nat → Int32)) → Option (Int32 × Int32 × Int32 × Int32 × (Nat → Int32) × (Nat → Int32) × (Nat → Int32) × (Nat → Int32) × (Nat → Int32)) := lp (fun rc v => f_X8_goOn_L4_b x1 rc v.1 v.2.1 v.2.2.1 v.2.2.2.1 v.2.2.2.2.1 v.2.2.2.2.2.1 v.2.2.2.2.2.2.1 v.2.2.2.2.2.2.2.1 v.2.2.2.2.2.2.2.2.1 v.2.2.2.2.2.2.2.2.2) k
theorem f_X8_goOn_L4_s (x1 : Int32) (k : Nat) (y2 : Int32) (y3 : Int32) (vM_leaked : Int32) (vM_keptAll : Int32) (vM_offAll : Int32) (cM_d : Nat → Int32) (cM_came : Nat → Int32) (cM_got : Nat → Int32) (cM_held : Nat → Int32) (cM_off : Nat → Int32) : f_X8_goOn_L4 x1 (k + 1) (y2, y3, vM_leaked, vM_keptAll, vM_offAll, cM_d, cM_came, cM_got, cM_held, cM_off) = f_X8_goOn_L4_b x1 (f_X8_goOn_L4 x1 k) y2 y3 vM_leaked vM_keptAll vM_offAll cM_d cM_came cM_got cM_held cM_off := rfl
theorem f_X8_goOn_L4_0 (x1 : Int32) (v : Int32 × Int32 × Int32 × Int32 × Int32 × (Nat → Int32) × (Nat → Int32) × (Nat → Int32) × (Nat → Int32) × (Nat → Int32)) : f_X8_goOn_L4 x1 0 v = none := rfl
noncomputable def f_X8_goOn (x1 : Int32) (vM_leaked : Int32) (vM_keptAll : Int32) (vM_offAll : Int32) (cM_d : Nat → Int32) (cM_came : Nat → Int32) (cM_got : Nat → Int32) (cM_held : Nat → Int32) (cM_off : Nat → Int32) : Option (Int32 × Int32 × Int32 × Int32 × (Nat → Int32) × (Nat → Int32) × (Nat → Int32) × (Nat → Int32) × (Nat → Int32)) :=
  f_X8_goOn_L4 x1 FU ((0 : Int32), (0 : Int32), vM_leaked, vM_keptAll, vM_offAll, cM_d, cM_came, cM_got, cM_held, cM_off)
noncomputable def f_X8_hours (x1 : Int32) (vM_leaked : Int32) (vM_keptAll : Int32) (vM_offAll : Int32) (cM_d : Nat → Int32) (cM_came : Nat → Int32) (cM_got : Nat → Int32) (cM_held : Nat → Int32) (cM_off : Nat → Int32) (cM_found : Nat → Int32) : Option (Int32 × Int32 × Int32 × Int32 × (Nat → Int32) × (Nat → Int32) × (Nat → Int32) × (Nat → Int32) × (Nat → Int32) × (Nat → Int32)) :=
  bd (f_X8_in x1.toInt64 (1 : Int64) (100 : Int64)) fun u1 =>
  br (u1 = 0)
  (bd (f_X8_finds (0 : Int32) cM_found) fun u7 =>
  some (u7.1, vM_leaked, vM_keptAll, vM_offAll, cM_d, cM_came, cM_got, cM_held, cM_off, u7.2))
  (bd (f_X8_isLate x1 cM_d) fun u3 =>
  br (u3 = 0)
  (bd (f_X8_goOn x1 vM_leaked vM_keptAll vM_offAll cM_d cM_came cM_got cM_held cM_off) fun u5 =>
  some (u5.1, u5.2.1, u5.2.2.1, u5.2.2.2.1, u5.2.2.2.2.1, u5.2.2.2.2.2.1, u5.2.2.2.2.2.2.1, u5.2.2.2.2.2.2.2.1, u5.2.2.2.2.2.2.2.2, cM_found))
  (bd (f_X8_finds (4 : Int32) cM_found) fun u6 =>
  some (u6.1, vM_leaked, vM_keptAll, vM_offAll, cM_d, cM_came, cM_got, cM_held, cM_off, u6.2)))
noncomputable def f_X8_sumOf_L4_b (x1 : Int32) (cM_d : Nat → Int32) (rc4 : (Int32 × Int32) → Option (Int32)) (y2 : Int32) (y3 : Int32) : Option (Int32) :=
  br ((cM_d (0 : Int32).toNatClampNeg) ≤ y3)
  (some y2)
  (bd (f_X8_its y3 x1 cM_d) fun u2 =>
  nm (y2 + u2) fun z3 =>
  rc4 (z3, (y3 + 1)))
noncomputable def f_X8_sumOf_L4 (x1 : Int32) (cM_d : Nat → Int32) (k : Nat) : (Int32 × Int32) → Option (Int32) := lp (fun rc v => f_X8_sumOf_L4_b x1 cM_d rc v.1 v.2) k
theorem f_X8_sumOf_L4_s (x1 : Int32) (cM_d : Nat → Int32) (k : Nat) (y2 : Int32) (y3 : Int32) : f_X8_sumOf_L4 x1 cM_d (k + 1) (y2, y3) = f_X8_sumOf_L4_b x1 cM_d (f_X8_sumOf_L4 x1 cM_d k) y2 y3 := rfl
theorem f_X8_sumOf_L4_0 (x1 : Int32) (cM_d : Nat → Int32) (v : Int32 × Int32) : f_X8_sumOf_L4 x1 cM_d 0 v = none := rfl
noncomputable def f_X8_sumOf (x1 : Int32) (cM_d : Nat → Int32) : Option (Int32) :=
  f_X8_sumOf_L4 x1 cM_d FU ((0 : Int32), (0 : Int32))
noncomputable def f_X8_now (x1 : Int32) (vM_leaked : Int32) (vM_keptAll : Int32) (vM_offAll : Int32) (cM_d : Nat → Int32) (cM_came : Nat → Int32) (cM_got : Nat → Int32) (cM_held : Nat → Int32) (cM_off : Nat → Int32) (cM_found : Nat → Int32) : Option (Int32 × Int32 × Int32 × Int32 × (Nat → Int32) × (Nat → Int32) × (Nat → Int32) × (Nat → Int32) × (Nat → Int32)) :=
  bd (f_X8_in x1.toInt64 (0 : Int64) (6 : Int64)) fun u1 =>
  br (u1 = 0)
  (bd (f_X8_finds (0 : Int32) cM_found) fun u12 =>
  some (u12.1, vM_leaked, vM_keptAll, vM_offAll, cM_came, cM_got, cM_held, cM_off, u12.2))
  (bd (f_X8_look vM_leaked vM_keptAll vM_offAll cM_d cM_came cM_got cM_held cM_off) fun u3 =>
  br (x1 = 0)
  (some ((cM_d (1 : Int32).toNatClampNeg), u3.1, u3.2.1, u3.2.2.1, u3.2.2.2.1, u3.2.2.2.2.1, u3.2.2.2.2.2.1, u3.2.2.2.2.2.2, cM_found))
  (br (x1 = 1)
  (some ((cM_d (3 : Int32).toNatClampNeg), u3.1, u3.2.1, u3.2.2.1, u3.2.2.2.1, u3.2.2.2.2.1, u3.2.2.2.2.2.1, u3.2.2.2.2.2.2, cM_found))
  (br (x1 = 2)
  (bd (f_X8_sumOf (4 : Int32) cM_d) fun u10 =>
  some (u10, u3.1, u3.2.1, u3.2.2.1, u3.2.2.2.1, u3.2.2.2.2.1, u3.2.2.2.2.2.1, u3.2.2.2.2.2.2, cM_found))
  (br (x1 = 3)
  (bd (f_X8_sumOf (3 : Int32) cM_d) fun u11 =>
  some (u11, u3.1, u3.2.1, u3.2.2.1, u3.2.2.2.1, u3.2.2.2.2.1, u3.2.2.2.2.2.1, u3.2.2.2.2.2.2, cM_found))
  (br (x1 = 4)
  (some (u3.2.2.1, u3.1, u3.2.1, u3.2.2.1, u3.2.2.2.1, u3.2.2.2.2.1, u3.2.2.2.2.2.1, u3.2.2.2.2.2.2, cM_found))
  (br (x1 = 5)
  (some (u3.1, u3.1, u3.2.1, u3.2.2.1, u3.2.2.2.1, u3.2.2.2.2.1, u3.2.2.2.2.2.1, u3.2.2.2.2.2.2, cM_found))
  (some (u3.2.1, u3.1, u3.2.1, u3.2.2.1, u3.2.2.2.1, u3.2.2.2.2.1, u3.2.2.2.2.2.1, u3.2.2.2.2.2.2, cM_found))))))))
noncomputable def f_X8_tries_L99_b (x1 : Int32) (rc49 : (Int32 × Int32 × Int32 × Int32 × Int32 × Int32 × Int32 × (Nat → Int32) × (Nat → Int32) × (Nat → Int32) × (Nat → Int32) × (Nat → Int32) × (Nat → Int32) × (Nat → Int32)) → Option (Int32 × Int32 × Int32 × Int32 × Int32 × Int32 × (Nat → Int32) × (Nat → Int32) × (Nat → Int32) × (Nat → Int32) × (Nat → Int32) × (Nat → Int32) × (Nat → Int32))) (rc99 : (Int32 × Int32 × Int32 × Int32 × Int32 × Int32 × Int32 × Int32 × (Nat → Int32) × (Nat → Int32) × (Nat → Int32) × (Nat → Int32) × (Nat → Int32) × (Nat → Int32) × (Nat → Int32)) → Option (Int32 × Int32 × Int32 × Int32 × Int32 × Int32 × (Nat → Int32) × (Nat → Int32) × (Nat → Int32) × (Nat → Int32) × (Nat → Int32) × (Nat → Int32) × (Nat → Int32))) (y2 : Int32) (y3 : Int32) (vM_leaked : Int32) (vM_keptAll : Int32) (vM_offAll : Int32) (vM_triedOff : Int32) (vM_triedLeaked : Int32) (vM_triedKept : Int32) (cM_d : Nat → Int32) (cM_f : Nat → Int32) (cM_came : Nat → Int32) (cM_got : Nat → Int32) (cM_held : Nat → Int32) (cM_off : Nat → Int32) (cM_gets : Nat → Int32) : Option (Int32 × Int32 × Int32 × Int32 × Int32 × Int32 × (Nat → Int32) × (Nat → Int32) × (Nat → Int32) × (Nat → Int32) × (Nat → Int32) × (Nat → Int32) × (Nat → Int32)) :=
  br ((cM_d (0 : Int32).toNatClampNeg) ≤ y3)
  (rc49 ((y2 + 1), vM_leaked, vM_keptAll, vM_offAll, vM_triedOff, vM_triedLeaked, vM_triedKept, cM_d, cM_f, cM_came, cM_got, cM_held, cM_off, cM_gets))
  (gd (vp_in y3 10) (gd (vp_in y3 10) (gd (vp_in y3 10) (rc99 (y2, (y3 + 1), vM_leaked, vM_keptAll, vM_offAll, vM_triedOff, vM_triedLeaked, vM_triedKept, cM_d, cM_f, cM_came, cM_got, cM_held, cM_off, (upd cM_gets y3.toNatClampNeg ((cM_gets y3.toNatClampNeg) + (cM_got y3.toNatClampNeg))))))))
noncomputable def f_X8_tries_L99 (x1 : Int32) (rc49 : (Int32 × Int32 × Int32 × Int32 × Int32 × Int32 × Int32 × (Nat → Int32) × (Nat → Int32) × (Nat → Int32) × (Nat → Int32) × (Nat → Int32) × (Nat → Int32) × (Nat → Int32)) → Option (Int32 × Int32 × Int32 × Int32 × Int32 × Int32 × (Nat → Int32) × (Nat → Int32) × (Nat → Int32) × (Nat → Int32) × (Nat → Int32) × (Nat → Int32) × (Nat → Int32))) (k : Nat) : (Int32 × Int32 × Int32 × Int32 × Int32 × Int32 × Int32 × Int32 × (Nat → Int32) × (Nat → Int32) × (Nat → Int32) × (Nat → Int32) × (Nat → Int32) × (Nat → Int32) × (Nat → Int32)) → Option (Int32 × Int32 × Int32 × Int32 × Int32 × Int32 × (Nat → Int32) × (Nat → Int32) × (Nat → Int32) × (Nat → Int32) × (Nat → Int32) × (Nat → Int32) × (Nat → Int32)) := lp (fun rc v => f_X8_tries_L99_b x1 rc49 rc v.1 v.2.1 v.2.2.1 v.2.2.2.1 v.2.2.2.2.1 v.2.2.2.2.2.1 v.2.2.2.2.2.2.1 v.2.2.2.2.2.2.2.1 v.2.2.2.2.2.2.2.2.1 v.2.2.2.2.2.2.2.2.2.1 v.2.2.2.2.2.2.2.2.2.2.1 v.2.2.2.2.2.2.2.2.2.2.2.1 v.2.2.2.2.2.2.2.2.2.2.2.2.1 v.2.2.2.2.2.2.2.2.2.2.2.2.2.1 v.2.2.2.2.2.2.2.2.2.2.2.2.2.2) k
theorem f_X8_tries_L99_s (x1 : Int32) (rc49 : (Int32 × Int32 × Int32 × Int32 × Int32 × Int32 × Int32 × (Nat → Int32) × (Nat → Int32) × (Nat → Int32) × (Nat → Int32) × (Nat → Int32) × (Nat → Int32) × (Nat → Int32)) → Option (Int32 × Int32 × Int32 × Int32 × Int32 × Int32 × (Nat → Int32) × (Nat → Int32) × (Nat → Int32) × (Nat → Int32) × (Nat → Int32) × (Nat → Int32) × (Nat → Int32))) (k : Nat) (y2 : Int32) (y3 : Int32) (vM_leaked : Int32) (vM_keptAll : Int32) (vM_offAll : Int32) (vM_triedOff : Int32) (vM_triedLeaked : Int32) (vM_triedKept : Int32) (cM_d : Nat → Int32) (cM_f : Nat → Int32) (cM_came : Nat → Int32) (cM_got : Nat → Int32) (cM_held : Nat → Int32) (cM_off : Nat → Int32) (cM_gets : Nat → Int32) : f_X8_tries_L99 x1 rc49 (k + 1) (y2, y3, vM_leaked, vM_keptAll, vM_offAll, vM_triedOff, vM_triedLeaked, vM_triedKept, cM_d, cM_f, cM_came, cM_got, cM_held, cM_off, cM_gets) = f_X8_tries_L99_b x1 rc49 (f_X8_tries_L99 x1 rc49 k) y2 y3 vM_leaked vM_keptAll vM_offAll vM_triedOff vM_triedLeaked vM_triedKept cM_d cM_f cM_came cM_got cM_held cM_off cM_gets := rfl
theorem f_X8_tries_L99_0 (x1 : Int32) (rc49 : (Int32 × Int32 × Int32 × Int32 × Int32 × Int32 × Int32 × (Nat → Int32) × (Nat → Int32) × (Nat → Int32) × (Nat → Int32) × (Nat → Int32) × (Nat → Int32) × (Nat → Int32)) → Option (Int32 × Int32 × Int32 × Int32 × Int32 × Int32 × (Nat → Int32) × (Nat → Int32) × (Nat → Int32) × (Nat → Int32) × (Nat → Int32) × (Nat → Int32) × (Nat → Int32))) (v : Int32 × Int32 × Int32 × Int32 × Int32 × Int32 × Int32 × Int32 × (Nat → Int32) × (Nat → Int32) × (Nat → Int32) × (Nat → Int32) × (Nat → Int32) × (Nat → Int32) × (Nat → Int32)) : f_X8_tries_L99 x1 rc49 0 v = none := rfl
noncomputable def f_X8_tries_J136 (x1 : Int32) (vM_leaked : Int32) (vM_keptAll : Int32) (vM_offAll : Int32) (vM_triedOff : Int32) (vM_triedLeaked : Int32) (vM_triedKept : Int32) (cM_d : Nat → Int32) (cM_f : Nat → Int32) (cM_came : Nat → Int32) (cM_got : Nat → Int32) (cM_held : Nat → Int32) (cM_off : Nat → Int32) (cM_gets : Nat → Int32) : Option (Int32 × Int32 × Int32 × Int32 × Int32 × Int32 × (Nat → Int32) × (Nat → Int32) × (Nat → Int32) × (Nat → Int32) × (Nat → Int32) × (Nat → Int32) × (Nat → Int32)) :=
  bd (f_X8_copies cM_f cM_d) fun u3 =>
  some (vM_leaked, vM_keptAll, vM_offAll, vM_triedOff, vM_triedLeaked, vM_triedKept, u3, cM_f, cM_came, cM_got, cM_held, cM_off, cM_gets)
noncomputable def f_X8_tries_L49_b (x1 : Int32) (rc49 : (Int32 × Int32 × Int32 × Int32 × Int32 × Int32 × Int32 × (Nat → Int32) × (Nat → Int32) × (Nat → Int32) × (Nat → Int32) × (Nat → Int32) × (Nat → Int32) × (Nat → Int32)) → Option (Int32 × Int32 × Int32 × Int32 × Int32 × Int32 × (Nat → Int32) × (Nat → Int32) × (Nat → Int32) × (Nat → Int32) × (Nat → Int32) × (Nat → Int32) × (Nat → Int32))) (y2 : Int32) (vM_leaked : Int32) (vM_keptAll : Int32) (vM_offAll : Int32) (vM_triedOff : Int32) (vM_triedLeaked : Int32) (vM_triedKept : Int32) (cM_d : Nat → Int32) (cM_f : Nat → Int32) (cM_came : Nat → Int32) (cM_got : Nat → Int32) (cM_held : Nat → Int32) (cM_off : Nat → Int32) (cM_gets : Nat → Int32) : Option (Int32 × Int32 × Int32 × Int32 × Int32 × Int32 × (Nat → Int32) × (Nat → Int32) × (Nat → Int32) × (Nat → Int32) × (Nat → Int32) × (Nat → Int32) × (Nat → Int32)) :=
  br (x1 ≤ y2)
  (f_X8_tries_J136 x1 vM_leaked vM_keptAll vM_offAll vM_triedOff vM_triedLeaked vM_triedKept cM_d cM_f cM_came cM_got cM_held cM_off cM_gets)
  (bd (f_X8_anHour vM_leaked vM_keptAll vM_offAll cM_d cM_came cM_got cM_held cM_off) fun u5 =>
  f_X8_tries_L99 x1 rc49 FU (y2, (0 : Int32), u5.1, u5.2.1, u5.2.2.1, (vM_triedOff + u5.2.2.1), (vM_triedLeaked + u5.1), (vM_triedKept + u5.2.1), u5.2.2.2.1, cM_f, u5.2.2.2.2.1, u5.2.2.2.2.2.1, u5.2.2.2.2.2.2.1, u5.2.2.2.2.2.2.2, cM_gets))
noncomputable def f_X8_tries_L49 (x1 : Int32) (k : Nat) : (Int32 × Int32 × Int32 × Int32 × Int32 × Int32 × Int32 × (Nat → Int32) × (Nat → Int32) × (Nat → Int32) × (Nat → Int32) × (Nat → Int32) × (Nat → Int32) × (Nat → Int32)) → Option (Int32 × Int32 × Int32 × Int32 × Int32 × Int32 × (Nat → Int32) × (Nat → Int32) × (Nat → Int32) × (Nat → Int32) × (Nat → Int32) × (Nat → Int32) × (Nat → Int32)) := lp (fun rc v => f_X8_tries_L49_b x1 rc v.1 v.2.1 v.2.2.1 v.2.2.2.1 v.2.2.2.2.1 v.2.2.2.2.2.1 v.2.2.2.2.2.2.1 v.2.2.2.2.2.2.2.1 v.2.2.2.2.2.2.2.2.1 v.2.2.2.2.2.2.2.2.2.1 v.2.2.2.2.2.2.2.2.2.2.1 v.2.2.2.2.2.2.2.2.2.2.2.1 v.2.2.2.2.2.2.2.2.2.2.2.2.1 v.2.2.2.2.2.2.2.2.2.2.2.2.2) k
theorem f_X8_tries_L49_s (x1 : Int32) (k : Nat) (y2 : Int32) (vM_leaked : Int32) (vM_keptAll : Int32) (vM_offAll : Int32) (vM_triedOff : Int32) (vM_triedLeaked : Int32) (vM_triedKept : Int32) (cM_d : Nat → Int32) (cM_f : Nat → Int32) (cM_came : Nat → Int32) (cM_got : Nat → Int32) (cM_held : Nat → Int32) (cM_off : Nat → Int32) (cM_gets : Nat → Int32) : f_X8_tries_L49 x1 (k + 1) (y2, vM_leaked, vM_keptAll, vM_offAll, vM_triedOff, vM_triedLeaked, vM_triedKept, cM_d, cM_f, cM_came, cM_got, cM_held, cM_off, cM_gets) = f_X8_tries_L49_b x1 (f_X8_tries_L49 x1 k) y2 vM_leaked vM_keptAll vM_offAll vM_triedOff vM_triedLeaked vM_triedKept cM_d cM_f cM_came cM_got cM_held cM_off cM_gets := rfl
theorem f_X8_tries_L49_0 (x1 : Int32) (v : Int32 × Int32 × Int32 × Int32 × Int32 × Int32 × Int32 × (Nat → Int32) × (Nat → Int32) × (Nat → Int32) × (Nat → Int32) × (Nat → Int32) × (Nat → Int32) × (Nat → Int32)) : f_X8_tries_L49 x1 0 v = none := rfl
noncomputable def f_X8_tries_L28_b (x1 : Int32) (rc28 : (Int32 × Int32 × Int32 × Int32 × Int32 × Int32 × Int32 × (Nat → Int32) × (Nat → Int32) × (Nat → Int32) × (Nat → Int32) × (Nat → Int32) × (Nat → Int32) × (Nat → Int32)) → Option (Int32 × Int32 × Int32 × Int32 × Int32 × Int32 × (Nat → Int32) × (Nat → Int32) × (Nat → Int32) × (Nat → Int32) × (Nat → Int32) × (Nat → Int32) × (Nat → Int32))) (y2 : Int32) (vM_leaked : Int32) (vM_keptAll : Int32) (vM_offAll : Int32) (vM_triedOff : Int32) (vM_triedLeaked : Int32) (vM_triedKept : Int32) (cM_d : Nat → Int32) (cM_f : Nat → Int32) (cM_came : Nat → Int32) (cM_got : Nat → Int32) (cM_held : Nat → Int32) (cM_off : Nat → Int32) (cM_gets : Nat → Int32) : Option (Int32 × Int32 × Int32 × Int32 × Int32 × Int32 × (Nat → Int32) × (Nat → Int32) × (Nat → Int32) × (Nat → Int32) × (Nat → Int32) × (Nat → Int32) × (Nat → Int32)) :=
  br ((10 : Int32) ≤ y2)
  (f_X8_tries_L49 x1 FU ((0 : Int32), vM_leaked, vM_keptAll, vM_offAll, vM_triedOff, vM_triedLeaked, vM_triedKept, cM_d, cM_f, cM_came, cM_got, cM_held, cM_off, cM_gets))
  (gd (vp_in y2 10) (rc28 ((y2 + 1), vM_leaked, vM_keptAll, vM_offAll, vM_triedOff, vM_triedLeaked, vM_triedKept, cM_d, cM_f, cM_came, cM_got, cM_held, cM_off, (upd cM_gets y2.toNatClampNeg (0 : Int32)))))
noncomputable def f_X8_tries_L28 (x1 : Int32) (k : Nat) : (Int32 × Int32 × Int32 × Int32 × Int32 × Int32 × Int32 × (Nat → Int32) × (Nat → Int32) × (Nat → Int32) × (Nat → Int32) × (Nat → Int32) × (Nat → Int32) × (Nat → Int32)) → Option (Int32 × Int32 × Int32 × Int32 × Int32 × Int32 × (Nat → Int32) × (Nat → Int32) × (Nat → Int32) × (Nat → Int32) × (Nat → Int32) × (Nat → Int32) × (Nat → Int32)) := lp (fun rc v => f_X8_tries_L28_b x1 rc v.1 v.2.1 v.2.2.1 v.2.2.2.1 v.2.2.2.2.1 v.2.2.2.2.2.1 v.2.2.2.2.2.2.1 v.2.2.2.2.2.2.2.1 v.2.2.2.2.2.2.2.2.1 v.2.2.2.2.2.2.2.2.2.1 v.2.2.2.2.2.2.2.2.2.2.1 v.2.2.2.2.2.2.2.2.2.2.2.1 v.2.2.2.2.2.2.2.2.2.2.2.2.1 v.2.2.2.2.2.2.2.2.2.2.2.2.2) k
theorem f_X8_tries_L28_s (x1 : Int32) (k : Nat) (y2 : Int32) (vM_leaked : Int32) (vM_keptAll : Int32) (vM_offAll : Int32) (vM_triedOff : Int32) (vM_triedLeaked : Int32) (vM_triedKept : Int32) (cM_d : Nat → Int32) (cM_f : Nat → Int32) (cM_came : Nat → Int32) (cM_got : Nat → Int32) (cM_held : Nat → Int32) (cM_off : Nat → Int32) (cM_gets : Nat → Int32) : f_X8_tries_L28 x1 (k + 1) (y2, vM_leaked, vM_keptAll, vM_offAll, vM_triedOff, vM_triedLeaked, vM_triedKept, cM_d, cM_f, cM_came, cM_got, cM_held, cM_off, cM_gets) = f_X8_tries_L28_b x1 (f_X8_tries_L28 x1 k) y2 vM_leaked vM_keptAll vM_offAll vM_triedOff vM_triedLeaked vM_triedKept cM_d cM_f cM_came cM_got cM_held cM_off cM_gets := rfl
theorem f_X8_tries_L28_0 (x1 : Int32) (v : Int32 × Int32 × Int32 × Int32 × Int32 × Int32 × Int32 × (Nat → Int32) × (Nat → Int32) × (Nat → Int32) × (Nat → Int32) × (Nat → Int32) × (Nat → Int32) × (Nat → Int32)) : f_X8_tries_L28 x1 0 v = none := rfl
noncomputable def f_X8_tries (x1 : Int32) (vM_leaked : Int32) (vM_keptAll : Int32) (vM_offAll : Int32) (vM_triedOff : Int32) (vM_triedLeaked : Int32) (vM_triedKept : Int32) (cM_d : Nat → Int32) (cM_f : Nat → Int32) (cM_came : Nat → Int32) (cM_got : Nat → Int32) (cM_held : Nat → Int32) (cM_off : Nat → Int32) (cM_gets : Nat → Int32) : Option (Int32 × Int32 × Int32 × Int32 × Int32 × Int32 × (Nat → Int32) × (Nat → Int32) × (Nat → Int32) × (Nat → Int32) × (Nat → Int32) × (Nat → Int32) × (Nat → Int32)) :=
  bd (f_X8_copies cM_d cM_f) fun u1 =>
  f_X8_tries_L28 x1 FU ((0 : Int32), vM_leaked, vM_keptAll, vM_offAll, (0 : Int32), (0 : Int32), (0 : Int32), cM_d, u1, cM_came, cM_got, cM_held, cM_off, cM_gets)
noncomputable def f_X8_ahead (x1 : Int32) (x2 : Int32) (vM_leaked : Int32) (vM_keptAll : Int32) (vM_offAll : Int32) (vM_triedOff : Int32) (vM_triedLeaked : Int32) (vM_triedKept : Int32) (cM_found : Nat → Int32) (cM_d : Nat → Int32) (cM_f : Nat → Int32) (cM_came : Nat → Int32) (cM_got : Nat → Int32) (cM_held : Nat → Int32) (cM_off : Nat → Int32) (cM_gets : Nat → Int32) : Option (Int32 × Int32 × Int32 × Int32 × Int32 × Int32 × Int32 × (Nat → Int32) × (Nat → Int32) × (Nat → Int32) × (Nat → Int32) × (Nat → Int32) × (Nat → Int32) × (Nat → Int32) × (Nat → Int32)) :=
  bd (f_X8_in x1.toInt64 (0 : Int64) (100 : Int64)) fun u1 =>
  br (u1 = 0)
  (bd (f_X8_finds (0 : Int32) cM_found) fun u3 =>
  some (u3.1, vM_leaked, vM_keptAll, vM_offAll, vM_triedOff, vM_triedLeaked, vM_triedKept, u3.2, cM_d, cM_f, cM_came, cM_got, cM_held, cM_off, cM_gets))
  (bd (f_X8_in x2.toInt64 (0 : Int64) (((2 : Int32) + (cM_d (0 : Int32).toNatClampNeg)).toInt64)) fun u4 =>
  br (u4 = 0)
  (bd (f_X8_finds (0 : Int32) cM_found) fun u14 =>
  some (u14.1, vM_leaked, vM_keptAll, vM_offAll, vM_triedOff, vM_triedLeaked, vM_triedKept, u14.2, cM_d, cM_f, cM_came, cM_got, cM_held, cM_off, cM_gets))
  (bd (f_X8_isLate x1 cM_d) fun u6 =>
  br (u6 = 0)
  (bd (f_X8_tries x1 vM_leaked vM_keptAll vM_offAll vM_triedOff vM_triedLeaked vM_triedKept cM_d cM_f cM_came cM_got cM_held cM_off cM_gets) fun u8 =>
  br (x2 = 0)
  (some (u8.2.2.2.2.2.1, u8.1, u8.2.1, u8.2.2.1, u8.2.2.2.1, u8.2.2.2.2.1, u8.2.2.2.2.2.1, cM_found, u8.2.2.2.2.2.2.1, u8.2.2.2.2.2.2.2.1, u8.2.2.2.2.2.2.2.2.1, u8.2.2.2.2.2.2.2.2.2.1, u8.2.2.2.2.2.2.2.2.2.2.1, u8.2.2.2.2.2.2.2.2.2.2.2.1, u8.2.2.2.2.2.2.2.2.2.2.2.2))
  (br (x2 = (1 : Int32))
  (some (u8.2.2.2.1, u8.1, u8.2.1, u8.2.2.1, u8.2.2.2.1, u8.2.2.2.2.1, u8.2.2.2.2.2.1, cM_found, u8.2.2.2.2.2.2.1, u8.2.2.2.2.2.2.2.1, u8.2.2.2.2.2.2.2.2.1, u8.2.2.2.2.2.2.2.2.2.1, u8.2.2.2.2.2.2.2.2.2.2.1, u8.2.2.2.2.2.2.2.2.2.2.2.1, u8.2.2.2.2.2.2.2.2.2.2.2.2))
  (br (x2 = (2 : Int32))
  (some (u8.2.2.2.2.1, u8.1, u8.2.1, u8.2.2.1, u8.2.2.2.1, u8.2.2.2.2.1, u8.2.2.2.2.2.1, cM_found, u8.2.2.2.2.2.2.1, u8.2.2.2.2.2.2.2.1, u8.2.2.2.2.2.2.2.2.1, u8.2.2.2.2.2.2.2.2.2.1, u8.2.2.2.2.2.2.2.2.2.2.1, u8.2.2.2.2.2.2.2.2.2.2.2.1, u8.2.2.2.2.2.2.2.2.2.2.2.2))
  (gd (vp_in (x2 - (3 : Int32)) 10) (some ((u8.2.2.2.2.2.2.2.2.2.2.2.2 (x2 - (3 : Int32)).toNatClampNeg), u8.1, u8.2.1, u8.2.2.1, u8.2.2.2.1, u8.2.2.2.2.1, u8.2.2.2.2.2.1, cM_found, u8.2.2.2.2.2.2.1, u8.2.2.2.2.2.2.2.1, u8.2.2.2.2.2.2.2.2.1, u8.2.2.2.2.2.2.2.2.2.1, u8.2.2.2.2.2.2.2.2.2.2.1, u8.2.2.2.2.2.2.2.2.2.2.2.1, u8.2.2.2.2.2.2.2.2.2.2.2.2))))))
  (bd (f_X8_finds (4 : Int32) cM_found) fun u13 =>
  some (u13.1, vM_leaked, vM_keptAll, vM_offAll, vM_triedOff, vM_triedLeaked, vM_triedKept, u13.2, cM_d, cM_f, cM_came, cM_got, cM_held, cM_off, cM_gets))))
noncomputable def f_X8_when_J80 (x1 : Int32) (x2 : Int32) (y3 : Int32) (vM_leaked : Int32) (vM_keptAll : Int32) (vM_offAll : Int32) (cM_d : Nat → Int32) (cM_found : Nat → Int32) (cM_f : Nat → Int32) (cM_came : Nat → Int32) (cM_got : Nat → Int32) (cM_held : Nat → Int32) (cM_off : Nat → Int32) : Option (Int32 × Int32 × Int32 × Int32 × (Nat → Int32) × (Nat → Int32) × (Nat → Int32) × (Nat → Int32) × (Nat → Int32) × (Nat → Int32) × (Nat → Int32)) :=
  bd (f_X8_copies cM_f cM_d) fun u9 =>
  br (y3 ≤ (100 : Int32))
  (some (y3, vM_leaked, vM_keptAll, vM_offAll, u9, cM_found, cM_f, cM_came, cM_got, cM_held, cM_off))
  (bd (f_X8_finds (3 : Int32) cM_found) fun u11 =>
  some (u11.1, vM_leaked, vM_keptAll, vM_offAll, u9, u11.2, cM_f, cM_came, cM_got, cM_held, cM_off))
noncomputable def f_X8_when_L54_b (x1 : Int32) (x2 : Int32) (rc54 : (Int32 × Int32 × Int32 × Int32 × (Nat → Int32) × (Nat → Int32) × (Nat → Int32) × (Nat → Int32) × (Nat → Int32) × (Nat → Int32) × (Nat → Int32)) → Option (Int32 × Int32 × Int32 × Int32 × (Nat → Int32) × (Nat → Int32) × (Nat → Int32) × (Nat → Int32) × (Nat → Int32) × (Nat → Int32) × (Nat → Int32))) (y3 : Int32) (vM_leaked : Int32) (vM_keptAll : Int32) (vM_offAll : Int32) (cM_d : Nat → Int32) (cM_found : Nat → Int32) (cM_f : Nat → Int32) (cM_came : Nat → Int32) (cM_got : Nat → Int32) (cM_held : Nat → Int32) (cM_off : Nat → Int32) : Option (Int32 × Int32 × Int32 × Int32 × (Nat → Int32) × (Nat → Int32) × (Nat → Int32) × (Nat → Int32) × (Nat → Int32) × (Nat → Int32) × (Nat → Int32)) :=
  br ((100 : Int32) < y3)
  (f_X8_when_J80 x1 x2 y3 vM_leaked vM_keptAll vM_offAll cM_d cM_found cM_f cM_came cM_got cM_held cM_off)
  (bd (f_X8_its x1 (4 : Int32) cM_d) fun u13 =>
  br (x2 ≤ u13)
  (f_X8_when_J80 x1 x2 y3 vM_leaked vM_keptAll vM_offAll cM_d cM_found cM_f cM_came cM_got cM_held cM_off)
  (bd (f_X8_anHour vM_leaked vM_keptAll vM_offAll cM_d cM_came cM_got cM_held cM_off) fun u15 =>
  rc54 ((y3 + 1), u15.1, u15.2.1, u15.2.2.1, u15.2.2.2.1, cM_found, cM_f, u15.2.2.2.2.1, u15.2.2.2.2.2.1, u15.2.2.2.2.2.2.1, u15.2.2.2.2.2.2.2)))
noncomputable def f_X8_when_L54 (x1 : Int32) (x2 : Int32) (k : Nat) : (Int32 × Int32 × Int32 × Int32 × (Nat → Int32) × (Nat → Int32) × (Nat → Int32) × (Nat → Int32) × (Nat → Int32) × (Nat → Int32) × (Nat → Int32)) → Option (Int32 × Int32 × Int32 × Int32 × (Nat → Int32) × (Nat → Int32) × (Nat → Int32) × (Nat → Int32) × (Nat → Int32) × (Nat → Int32) × (Nat → Int32)) := lp (fun rc v => f_X8_when_L54_b x1 x2 rc v.1 v.2.1 v.2.2.1 v.2.2.2.1 v.2.2.2.2.1 v.2.2.2.2.2.1 v.2.2.2.2.2.2.1 v.2.2.2.2.2.2.2.1 v.2.2.2.2.2.2.2.2.1 v.2.2.2.2.2.2.2.2.2.1 v.2.2.2.2.2.2.2.2.2.2) k
theorem f_X8_when_L54_s (x1 : Int32) (x2 : Int32) (k : Nat) (y3 : Int32) (vM_leaked : Int32) (vM_keptAll : Int32) (vM_offAll : Int32) (cM_d : Nat → Int32) (cM_found : Nat → Int32) (cM_f : Nat → Int32) (cM_came : Nat → Int32) (cM_got : Nat → Int32) (cM_held : Nat → Int32) (cM_off : Nat → Int32) : f_X8_when_L54 x1 x2 (k + 1) (y3, vM_leaked, vM_keptAll, vM_offAll, cM_d, cM_found, cM_f, cM_came, cM_got, cM_held, cM_off) = f_X8_when_L54_b x1 x2 (f_X8_when_L54 x1 x2 k) y3 vM_leaked vM_keptAll vM_offAll cM_d cM_found cM_f cM_came cM_got cM_held cM_off := rfl
theorem f_X8_when_L54_0 (x1 : Int32) (x2 : Int32) (v : Int32 × Int32 × Int32 × Int32 × (Nat → Int32) × (Nat → Int32) × (Nat → Int32) × (Nat → Int32) × (Nat → Int32) × (Nat → Int32) × (Nat → Int32)) : f_X8_when_L54 x1 x2 0 v = none := rfl
noncomputable def f_X8_when (x1 : Int32) (x2 : Int32) (vM_leaked : Int32) (vM_keptAll : Int32) (vM_offAll : Int32) (cM_d : Nat → Int32) (cM_found : Nat → Int32) (cM_f : Nat → Int32) (cM_came : Nat → Int32) (cM_got : Nat → Int32) (cM_held : Nat → Int32) (cM_off : Nat → Int32) : Option (Int32 × Int32 × Int32 × Int32 × (Nat → Int32) × (Nat → Int32) × (Nat → Int32) × (Nat → Int32) × (Nat → Int32) × (Nat → Int32) × (Nat → Int32)) :=
  bd (f_X8_isBasin x1 cM_d) fun u1 =>
  br (u1 = 0)
  (bd (f_X8_finds (0 : Int32) cM_found) fun u3 =>
  some (u3.1, vM_leaked, vM_keptAll, vM_offAll, cM_d, u3.2, cM_f, cM_came, cM_got, cM_held, cM_off))
  (bd (f_X8_in x2.toInt64 (1 : Int64) (99999 : Int64)) fun u4 =>
  br (u4 = 0)
  (bd (f_X8_finds (0 : Int32) cM_found) fun u17 =>
  some (u17.1, vM_leaked, vM_keptAll, vM_offAll, cM_d, u17.2, cM_f, cM_came, cM_got, cM_held, cM_off))
  (bd (f_X8_isLate (100 : Int32) cM_d) fun u6 =>
  br (u6 = 0)
  (bd (f_X8_copies cM_d cM_f) fun u8 =>
  f_X8_when_L54 x1 x2 FU ((0 : Int32), vM_leaked, vM_keptAll, vM_offAll, cM_d, cM_found, u8, cM_came, cM_got, cM_held, cM_off))
  (bd (f_X8_finds (4 : Int32) cM_found) fun u16 =>
  some (u16.1, vM_leaked, vM_keptAll, vM_offAll, cM_d, u16.2, cM_f, cM_came, cM_got, cM_held, cM_off))))
noncomputable def f_X8_loses (x1 : Int32) (x2 : Int32) (vM_leaked : Int32) (vM_keptAll : Int32) (vM_offAll : Int32) (vM_up : Int64) (vM_down : Int64) (vM_sharesUp : Int64) (vM_sharesDown : Int64) (vM_onUp : Int64) (vM_onDown : Int64) (vM_great : Int32) (vM_triedOff : Int32) (vM_triedLeaked : Int32) (vM_triedKept : Int32) (cM_d : Nat → Int32) (cM_found : Nat → Int32) (cM_path : Nat → Int32) (cM_comesUp : Nat → Int64) (cM_comesDown : Nat → Int64) (cM_f : Nat → Int32) (cM_came : Nat → Int32) (cM_got : Nat → Int32) (cM_held : Nat → Int32) (cM_off : Nat → Int32) (cM_gets : Nat → Int32) : Option (Int32 × Int32 × Int32 × Int32 × Int64 × Int64 × Int64 × Int64 × Int64 × Int64 × Int32 × Int32 × Int32 × Int32 × (Nat → Int32) × (Nat → Int32) × (Nat → Int32) × (Nat → Int64) × (Nat → Int64) × (Nat → Int32) × (Nat → Int32) × (Nat → Int32) × (Nat → Int32) × (Nat → Int32) × (Nat → Int32)) :=
  bd (f_X8_isBasin x1 cM_d) fun u1 =>
  br (u1 = 0)
  (bd (f_X8_finds (0 : Int32) cM_found) fun u3 =>
  some (u3.1, vM_leaked, vM_keptAll, vM_offAll, vM_up, vM_down, vM_sharesUp, vM_sharesDown, vM_onUp, vM_onDown, vM_great, vM_triedOff, vM_triedLeaked, vM_triedKept, cM_d, u3.2, cM_path, cM_comesUp, cM_comesDown, cM_f, cM_came, cM_got, cM_held, cM_off, cM_gets))
  (bd (f_X8_in x2.toInt64 (1 : Int64) (100 : Int64)) fun u4 =>
  br (u4 = 0)
  (bd (f_X8_finds (0 : Int32) cM_found) fun u15 =>
  some (u15.1, vM_leaked, vM_keptAll, vM_offAll, vM_up, vM_down, vM_sharesUp, vM_sharesDown, vM_onUp, vM_onDown, vM_great, vM_triedOff, vM_triedLeaked, vM_triedKept, cM_d, u15.2, cM_path, cM_comesUp, cM_comesDown, cM_f, cM_came, cM_got, cM_held, cM_off, cM_gets))
  (bd (f_X8_isLate x2 cM_d) fun u6 =>
  br (u6 = 0)
  (bd (f_X8_isShare x1 vM_up vM_down vM_sharesUp vM_sharesDown vM_onUp vM_onDown vM_great cM_path cM_comesUp cM_comesDown cM_d) fun u8 =>
  br (u8.1 = 0)
  (bd (f_X8_finds (6 : Int32) cM_found) fun u13 =>
  some (u13.1, vM_leaked, vM_keptAll, vM_offAll, u8.2.1, u8.2.2.1, u8.2.2.2.1, u8.2.2.2.2.1, u8.2.2.2.2.2.1, u8.2.2.2.2.2.2.1, u8.2.2.2.2.2.2.2.1, vM_triedOff, vM_triedLeaked, vM_triedKept, cM_d, u13.2, u8.2.2.2.2.2.2.2.2.1, u8.2.2.2.2.2.2.2.2.2.1, u8.2.2.2.2.2.2.2.2.2.2, cM_f, cM_came, cM_got, cM_held, cM_off, cM_gets))
  (bd (f_X8_tries x2 vM_leaked vM_keptAll vM_offAll vM_triedOff vM_triedLeaked vM_triedKept cM_d cM_f cM_came cM_got cM_held cM_off cM_gets) fun u10 =>
  gd (¬ u8.2.2.2.2.1 = 0) (gd (vp_in x1 10) (some (((((u8.2.2.2.1 * (((u10.2.2.2.2.2.2.1 (3 : Int32).toNatClampNeg) * x2).toInt64)) / u8.2.2.2.2.1).toInt32) - (u10.2.2.2.2.2.2.2.2.2.2.2.2 x1.toNatClampNeg)), u10.1, u10.2.1, u10.2.2.1, u8.2.1, u8.2.2.1, u8.2.2.2.1, u8.2.2.2.2.1, u8.2.2.2.2.2.1, u8.2.2.2.2.2.2.1, u8.2.2.2.2.2.2.2.1, u10.2.2.2.1, u10.2.2.2.2.1, u10.2.2.2.2.2.1, u10.2.2.2.2.2.2.1, cM_found, u8.2.2.2.2.2.2.2.2.1, u8.2.2.2.2.2.2.2.2.2.1, u8.2.2.2.2.2.2.2.2.2.2, u10.2.2.2.2.2.2.2.1, u10.2.2.2.2.2.2.2.2.1, u10.2.2.2.2.2.2.2.2.2.1, u10.2.2.2.2.2.2.2.2.2.2.1, u10.2.2.2.2.2.2.2.2.2.2.2.1, u10.2.2.2.2.2.2.2.2.2.2.2.2)))))
  (bd (f_X8_finds (4 : Int32) cM_found) fun u14 =>
  some (u14.1, vM_leaked, vM_keptAll, vM_offAll, vM_up, vM_down, vM_sharesUp, vM_sharesDown, vM_onUp, vM_onDown, vM_great, vM_triedOff, vM_triedLeaked, vM_triedKept, cM_d, u14.2, cM_path, cM_comesUp, cM_comesDown, cM_f, cM_came, cM_got, cM_held, cM_off, cM_gets))))
noncomputable def f_X8_why (x1 : Int32) (x2 : Int32) (x3 : Int32) (cM_d : Nat → Int32) : Option (Int32) :=
  bd (f_X8_isBasin x1 cM_d) fun u1 =>
  br (u1 = 0)
  (some (0 : Int32))
  (br (x1 < x3)
  (some (0 : Int32))
  (bd (f_X8_in x2.toInt64 (1 : Int64) (60 : Int64)) fun u4 =>
  br (u4 = 0)
  (some (0 : Int32))
  (bd (f_X8_isLate x2 cM_d) fun u6 =>
  br (u6 = 0)
  (some (-1 : Int32))
  (some (4 : Int32)))))
noncomputable def f_X8_whyHours (x1 : Int32) (cM_d : Nat → Int32) : Option (Int32) :=
  bd (f_X8_in x1.toInt64 (1 : Int64) (60 : Int64)) fun u1 =>
  br (u1 = 0)
  (some (0 : Int32))
  (bd (f_X8_isLate x1 cM_d) fun u3 =>
  br (u3 = 0)
  (some (-1 : Int32))
  (some (4 : Int32)))
noncomputable def f_X8_bestOf_J57 (x1 : Int32) (x2 : Int32) (x3 : Int32) (x4 : Int32) (x5 : Int32) (rc19 : (Int32 × Int32 × Int32 × Int32 × Int32 × Int32 × Int32 × Int32 × Int32 × Int32 × (Nat → Int32) × (Nat → Int32) × (Nat → Int32) × (Nat → Int32) × (Nat → Int32) × (Nat → Int32) × (Nat → Int32)) → Option (Int32 × Int32 × Int32 × Int32 × Int32 × Int32 × Int32 × (Nat → Int32) × (Nat → Int32) × (Nat → Int32) × (Nat → Int32) × (Nat → Int32) × (Nat → Int32) × (Nat → Int32))) (y6 : Int32) (y8 : Int32) (y9 : Int32) (t0 : Int32) (vM_leaked : Int32) (vM_keptAll : Int32) (vM_offAll : Int32) (vM_triedOff : Int32) (vM_triedLeaked : Int32) (vM_triedKept : Int32) (cM_d : Nat → Int32) (cM_f : Nat → Int32) (cM_came : Nat → Int32) (cM_got : Nat → Int32) (cM_held : Nat → Int32) (cM_off : Nat → Int32) (cM_gets : Nat → Int32) : Option (Int32 × Int32 × Int32 × Int32 × Int32 × Int32 × Int32 × (Nat → Int32) × (Nat → Int32) × (Nat → Int32) × (Nat → Int32) × (Nat → Int32) × (Nat → Int32) × (Nat → Int32)) :=
  gd (vp_in x1 10) (br ((cM_gets x1.toNatClampNeg) ≤ y8)
  (rc19 (y6, t0, y8, (y9 + 1), vM_leaked, vM_keptAll, vM_offAll, vM_triedOff, vM_triedLeaked, vM_triedKept, cM_d, cM_f, cM_came, cM_got, cM_held, cM_off, cM_gets))
  (gd (vp_in x1 10) (nm (cM_gets x1.toNatClampNeg) fun z10 =>
  rc19 (y6, t0, z10, (y9 + 1), vM_leaked, vM_keptAll, vM_offAll, vM_triedOff, vM_triedLeaked, vM_triedKept, cM_d, cM_f, cM_came, cM_got, cM_held, cM_off, cM_gets))))
noncomputable def f_X8_bestOf_J89 (x1 : Int32) (x2 : Int32) (x3 : Int32) (x4 : Int32) (x5 : Int32) (y6 : Int32) (y7 : Int32) (vM_leaked : Int32) (vM_keptAll : Int32) (vM_offAll : Int32) (vM_triedOff : Int32) (vM_triedLeaked : Int32) (vM_triedKept : Int32) (cM_d : Nat → Int32) (cM_f : Nat → Int32) (cM_came : Nat → Int32) (cM_got : Nat → Int32) (cM_held : Nat → Int32) (cM_off : Nat → Int32) (cM_gets : Nat → Int32) : Option (Int32 × Int32 × Int32 × Int32 × Int32 × Int32 × Int32 × (Nat → Int32) × (Nat → Int32) × (Nat → Int32) × (Nat → Int32) × (Nat → Int32) × (Nat → Int32) × (Nat → Int32)) :=
  bd (f_X8_sets x1 x3 y6 cM_d) fun u2 =>
  some (y7, vM_leaked, vM_keptAll, vM_offAll, vM_triedOff, vM_triedLeaked, vM_triedKept, u2, cM_f, cM_came, cM_got, cM_held, cM_off, cM_gets)
noncomputable def f_X8_bestOf_L19_b (x1 : Int32) (x2 : Int32) (x3 : Int32) (x4 : Int32) (x5 : Int32) (rc19 : (Int32 × Int32 × Int32 × Int32 × Int32 × Int32 × Int32 × Int32 × Int32 × Int32 × (Nat → Int32) × (Nat → Int32) × (Nat → Int32) × (Nat → Int32) × (Nat → Int32) × (Nat → Int32) × (Nat → Int32)) → Option (Int32 × Int32 × Int32 × Int32 × Int32 × Int32 × Int32 × (Nat → Int32) × (Nat → Int32) × (Nat → Int32) × (Nat → Int32) × (Nat → Int32) × (Nat → Int32) × (Nat → Int32))) (y6 : Int32) (y7 : Int32) (y8 : Int32) (y9 : Int32) (vM_leaked : Int32) (vM_keptAll : Int32) (vM_offAll : Int32) (vM_triedOff : Int32) (vM_triedLeaked : Int32) (vM_triedKept : Int32) (cM_d : Nat → Int32) (cM_f : Nat → Int32) (cM_came : Nat → Int32) (cM_got : Nat → Int32) (cM_held : Nat → Int32) (cM_off : Nat → Int32) (cM_gets : Nat → Int32) : Option (Int32 × Int32 × Int32 × Int32 × Int32 × Int32 × Int32 × (Nat → Int32) × (Nat → Int32) × (Nat → Int32) × (Nat → Int32) × (Nat → Int32) × (Nat → Int32) × (Nat → Int32)) :=
  br (x5 < y9)
  (f_X8_bestOf_J89 x1 x2 x3 x4 x5 y6 y7 vM_leaked vM_keptAll vM_offAll vM_triedOff vM_triedLeaked vM_triedKept cM_d cM_f cM_came cM_got cM_held cM_off cM_gets)
  (bd (f_X8_sets x1 x3 y9 cM_d) fun u4 =>
  bd (f_X8_tries x2 vM_leaked vM_keptAll vM_offAll vM_triedOff vM_triedLeaked vM_triedKept u4 cM_f cM_came cM_got cM_held cM_off cM_gets) fun u5 =>
  gd (vp_in x1 10) (br ((u5.2.2.2.2.2.2.2.2.2.2.2.2 x1.toNatClampNeg) ≤ y8)
  (f_X8_bestOf_J57 x1 x2 x3 x4 x5 rc19 y6 y8 y9 y7 u5.1 u5.2.1 u5.2.2.1 u5.2.2.2.1 u5.2.2.2.2.1 u5.2.2.2.2.2.1 u5.2.2.2.2.2.2.1 u5.2.2.2.2.2.2.2.1 u5.2.2.2.2.2.2.2.2.1 u5.2.2.2.2.2.2.2.2.2.1 u5.2.2.2.2.2.2.2.2.2.2.1 u5.2.2.2.2.2.2.2.2.2.2.2.1 u5.2.2.2.2.2.2.2.2.2.2.2.2)
  (f_X8_bestOf_J57 x1 x2 x3 x4 x5 rc19 y6 y8 y9 y9 u5.1 u5.2.1 u5.2.2.1 u5.2.2.2.1 u5.2.2.2.2.1 u5.2.2.2.2.2.1 u5.2.2.2.2.2.2.1 u5.2.2.2.2.2.2.2.1 u5.2.2.2.2.2.2.2.2.1 u5.2.2.2.2.2.2.2.2.2.1 u5.2.2.2.2.2.2.2.2.2.2.1 u5.2.2.2.2.2.2.2.2.2.2.2.1 u5.2.2.2.2.2.2.2.2.2.2.2.2)))
noncomputable def f_X8_bestOf_L19 (x1 : Int32) (x2 : Int32) (x3 : Int32) (x4 : Int32) (x5 : Int32) (k : Nat) : (Int32 × Int32 × Int32 × Int32 × Int32 × Int32 × Int32 × Int32 × Int32 × Int32 × (Nat → Int32) × (Nat → Int32) × (Nat → Int32) × (Nat → Int32) × (Nat → Int32) × (Nat → Int32) × (Nat → Int32)) → Option (Int32 × Int32 × Int32 × Int32 × Int32 × Int32 × Int32 × (Nat → Int32) × (Nat → Int32) × (Nat → Int32) × (Nat → Int32) × (Nat → Int32) × (Nat → Int32) × (Nat → Int32)) := lp (fun rc v => f_X8_bestOf_L19_b x1 x2 x3 x4 x5 rc v.1 v.2.1 v.2.2.1 v.2.2.2.1 v.2.2.2.2.1 v.2.2.2.2.2.1 v.2.2.2.2.2.2.1 v.2.2.2.2.2.2.2.1 v.2.2.2.2.2.2.2.2.1 v.2.2.2.2.2.2.2.2.2.1 v.2.2.2.2.2.2.2.2.2.2.1 v.2.2.2.2.2.2.2.2.2.2.2.1 v.2.2.2.2.2.2.2.2.2.2.2.2.1 v.2.2.2.2.2.2.2.2.2.2.2.2.2.1 v.2.2.2.2.2.2.2.2.2.2.2.2.2.2.1 v.2.2.2.2.2.2.2.2.2.2.2.2.2.2.2.1 v.2.2.2.2.2.2.2.2.2.2.2.2.2.2.2.2) k
theorem f_X8_bestOf_L19_s (x1 : Int32) (x2 : Int32) (x3 : Int32) (x4 : Int32) (x5 : Int32) (k : Nat) (y6 : Int32) (y7 : Int32) (y8 : Int32) (y9 : Int32) (vM_leaked : Int32) (vM_keptAll : Int32) (vM_offAll : Int32) (vM_triedOff : Int32) (vM_triedLeaked : Int32) (vM_triedKept : Int32) (cM_d : Nat → Int32) (cM_f : Nat → Int32) (cM_came : Nat → Int32) (cM_got : Nat → Int32) (cM_held : Nat → Int32) (cM_off : Nat → Int32) (cM_gets : Nat → Int32) : f_X8_bestOf_L19 x1 x2 x3 x4 x5 (k + 1) (y6, y7, y8, y9, vM_leaked, vM_keptAll, vM_offAll, vM_triedOff, vM_triedLeaked, vM_triedKept, cM_d, cM_f, cM_came, cM_got, cM_held, cM_off, cM_gets) = f_X8_bestOf_L19_b x1 x2 x3 x4 x5 (f_X8_bestOf_L19 x1 x2 x3 x4 x5 k) y6 y7 y8 y9 vM_leaked vM_keptAll vM_offAll vM_triedOff vM_triedLeaked vM_triedKept cM_d cM_f cM_came cM_got cM_held cM_off cM_gets := rfl
theorem f_X8_bestOf_L19_0 (x1 : Int32) (x2 : Int32) (x3 : Int32) (x4 : Int32) (x5 : Int32) (v : Int32 × Int32 × Int32 × Int32 × Int32 × Int32 × Int32 × Int32 × Int32 × Int32 × (Nat → Int32) × (Nat → Int32) × (Nat → Int32) × (Nat → Int32) × (Nat → Int32) × (Nat → Int32) × (Nat → Int32)) : f_X8_bestOf_L19 x1 x2 x3 x4 x5 0 v = none := rfl
noncomputable def f_X8_bestOf (x1 : Int32) (x2 : Int32) (x3 : Int32) (x4 : Int32) (x5 : Int32) (vM_leaked : Int32) (vM_keptAll : Int32) (vM_offAll : Int32) (vM_triedOff : Int32) (vM_triedLeaked : Int32) (vM_triedKept : Int32) (cM_d : Nat → Int32) (cM_f : Nat → Int32) (cM_came : Nat → Int32) (cM_got : Nat → Int32) (cM_held : Nat → Int32) (cM_off : Nat → Int32) (cM_gets : Nat → Int32) : Option (Int32 × Int32 × Int32 × Int32 × Int32 × Int32 × Int32 × (Nat → Int32) × (Nat → Int32) × (Nat → Int32) × (Nat → Int32) × (Nat → Int32) × (Nat → Int32) × (Nat → Int32)) :=
  bd (f_X8_its x1 x3 cM_d) fun u1 =>
  f_X8_bestOf_L19 x1 x2 x3 x4 x5 FU (u1, x4, (-1 : Int32), x4, vM_leaked, vM_keptAll, vM_offAll, vM_triedOff, vM_triedLeaked, vM_triedKept, cM_d, cM_f, cM_came, cM_got, cM_held, cM_off, cM_gets)
noncomputable def f_X8_edge (x1 : Int32) (x2 : Int32) (vM_leaked : Int32) (vM_keptAll : Int32) (vM_offAll : Int32) (vM_triedOff : Int32) (vM_triedLeaked : Int32) (vM_triedKept : Int32) (cM_d : Nat → Int32) (cM_f : Nat → Int32) (cM_came : Nat → Int32) (cM_got : Nat → Int32) (cM_held : Nat → Int32) (cM_off : Nat → Int32) (cM_gets : Nat → Int32) (cM_found : Nat → Int32) : Option (Int32 × Int32 × Int32 × Int32 × Int32 × Int32 × Int32 × (Nat → Int32) × (Nat → Int32) × (Nat → Int32) × (Nat → Int32) × (Nat → Int32) × (Nat → Int32) × (Nat → Int32) × (Nat → Int32)) :=
  bd (f_X8_why x1 x2 (0 : Int32) cM_d) fun u1 =>
  br (u1 < 0)
  (bd (f_X8_bestOf x1 x2 (2 : Int32) (1 : Int32) (9 : Int32) vM_leaked vM_keptAll vM_offAll vM_triedOff vM_triedLeaked vM_triedKept cM_d cM_f cM_came cM_got cM_held cM_off cM_gets) fun u3 =>
  some (u3.1, u3.2.1, u3.2.2.1, u3.2.2.2.1, u3.2.2.2.2.1, u3.2.2.2.2.2.1, u3.2.2.2.2.2.2.1, u3.2.2.2.2.2.2.2.1, u3.2.2.2.2.2.2.2.2.1, u3.2.2.2.2.2.2.2.2.2.1, u3.2.2.2.2.2.2.2.2.2.2.1, u3.2.2.2.2.2.2.2.2.2.2.2.1, u3.2.2.2.2.2.2.2.2.2.2.2.2.1, u3.2.2.2.2.2.2.2.2.2.2.2.2.2, cM_found))
  (bd (f_X8_finds u1 cM_found) fun u4 =>
  some (u4.1, vM_leaked, vM_keptAll, vM_offAll, vM_triedOff, vM_triedLeaked, vM_triedKept, cM_d, cM_f, cM_came, cM_got, cM_held, cM_off, cM_gets, u4.2))
noncomputable def f_X8_place (x1 : Int32) (x2 : Int32) (vM_leaked : Int32) (vM_keptAll : Int32) (vM_offAll : Int32) (vM_triedOff : Int32) (vM_triedLeaked : Int32) (vM_triedKept : Int32) (cM_d : Nat → Int32) (cM_f : Nat → Int32) (cM_came : Nat → Int32) (cM_got : Nat → Int32) (cM_held : Nat → Int32) (cM_off : Nat → Int32) (cM_gets : Nat → Int32) (cM_found : Nat → Int32) : Option (Int32 × Int32 × Int32 × Int32 × Int32 × Int32 × Int32 × (Nat → Int32) × (Nat → Int32) × (Nat → Int32) × (Nat → Int32) × (Nat → Int32) × (Nat → Int32) × (Nat → Int32) × (Nat → Int32)) :=
  bd (f_X8_why x1 x2 (1 : Int32) cM_d) fun u1 =>
  br (u1 < 0)
  (bd (f_X8_bestOf x1 x2 (1 : Int32) (0 : Int32) (x1 - (1 : Int32)) vM_leaked vM_keptAll vM_offAll vM_triedOff vM_triedLeaked vM_triedKept cM_d cM_f cM_came cM_got cM_held cM_off cM_gets) fun u3 =>
  some (u3.1, u3.2.1, u3.2.2.1, u3.2.2.2.1, u3.2.2.2.2.1, u3.2.2.2.2.2.1, u3.2.2.2.2.2.2.1, u3.2.2.2.2.2.2.2.1, u3.2.2.2.2.2.2.2.2.1, u3.2.2.2.2.2.2.2.2.2.1, u3.2.2.2.2.2.2.2.2.2.2.1, u3.2.2.2.2.2.2.2.2.2.2.2.1, u3.2.2.2.2.2.2.2.2.2.2.2.2.1, u3.2.2.2.2.2.2.2.2.2.2.2.2.2, cM_found))
  (bd (f_X8_finds u1 cM_found) fun u4 =>
  some (u4.1, vM_leaked, vM_keptAll, vM_offAll, vM_triedOff, vM_triedLeaked, vM_triedKept, cM_d, cM_f, cM_came, cM_got, cM_held, cM_off, cM_gets, u4.2))
noncomputable def f_X8_kindFor (x1 : Int32) (x2 : Int32) (vM_leaked : Int32) (vM_keptAll : Int32) (vM_offAll : Int32) (vM_triedOff : Int32) (vM_triedLeaked : Int32) (vM_triedKept : Int32) (cM_d : Nat → Int32) (cM_f : Nat → Int32) (cM_came : Nat → Int32) (cM_got : Nat → Int32) (cM_held : Nat → Int32) (cM_off : Nat → Int32) (cM_gets : Nat → Int32) (cM_found : Nat → Int32) : Option (Int32 × Int32 × Int32 × Int32 × Int32 × Int32 × Int32 × (Nat → Int32) × (Nat → Int32) × (Nat → Int32) × (Nat → Int32) × (Nat → Int32) × (Nat → Int32) × (Nat → Int32) × (Nat → Int32)) :=
  bd (f_X8_why x1 x2 (0 : Int32) cM_d) fun u1 =>
  br (u1 < 0)
  (bd (f_X8_bestOf x1 x2 (0 : Int32) (0 : Int32) (6 : Int32) vM_leaked vM_keptAll vM_offAll vM_triedOff vM_triedLeaked vM_triedKept cM_d cM_f cM_came cM_got cM_held cM_off cM_gets) fun u3 =>
  some (u3.1, u3.2.1, u3.2.2.1, u3.2.2.2.1, u3.2.2.2.2.1, u3.2.2.2.2.2.1, u3.2.2.2.2.2.2.1, u3.2.2.2.2.2.2.2.1, u3.2.2.2.2.2.2.2.2.1, u3.2.2.2.2.2.2.2.2.2.1, u3.2.2.2.2.2.2.2.2.2.2.1, u3.2.2.2.2.2.2.2.2.2.2.2.1, u3.2.2.2.2.2.2.2.2.2.2.2.2.1, u3.2.2.2.2.2.2.2.2.2.2.2.2.2, cM_found))
  (bd (f_X8_finds u1 cM_found) fun u4 =>
  some (u4.1, vM_leaked, vM_keptAll, vM_offAll, vM_triedOff, vM_triedLeaked, vM_triedKept, cM_d, cM_f, cM_came, cM_got, cM_held, cM_off, cM_gets, u4.2))
noncomputable def f_X8_keepGets_L7_b (x1 : Int32) (rc7 : (Int32 × Int32 × Int32 × Int32 × Int32 × Int32 × Int32 × (Nat → Int32) × (Nat → Int32) × (Nat → Int32) × (Nat → Int32) × (Nat → Int32) × (Nat → Int32) × (Nat → Int32) × (Nat → Int32)) → Option (Int32 × Int32 × Int32 × Int32 × Int32 × Int32 × (Nat → Int32) × (Nat → Int32) × (Nat → Int32) × (Nat → Int32) × (Nat → Int32) × (Nat → Int32) × (Nat → Int32) × (Nat → Int32))) (y2 : Int32) (vM_leaked : Int32) (vM_keptAll : Int32) (vM_offAll : Int32) (vM_triedOff : Int32) (vM_triedLeaked : Int32) (vM_triedKept : Int32) (cM_d : Nat → Int32) (cM_f : Nat → Int32) (cM_came : Nat → Int32) (cM_got : Nat → Int32) (cM_held : Nat → Int32) (cM_off : Nat → Int32) (cM_gets : Nat → Int32) (cM_gotNow : Nat → Int32) : Option (Int32 × Int32 × Int32 × Int32 × Int32 × Int32 × (Nat → Int32) × (Nat → Int32) × (Nat → Int32) × (Nat → Int32) × (Nat → Int32) × (Nat → Int32) × (Nat → Int32) × (Nat → Int32)) :=
  br ((10 : Int32) ≤ y2)
  (some (vM_leaked, vM_keptAll, vM_offAll, vM_triedOff, vM_triedLeaked, vM_triedKept, cM_d, cM_f, cM_came, cM_got, cM_held, cM_off, cM_gets, cM_gotNow))
  (gd (vp_in y2 10) (gd (vp_in y2 10) (rc7 ((y2 + 1), vM_leaked, vM_keptAll, vM_offAll, vM_triedOff, vM_triedLeaked, vM_triedKept, cM_d, cM_f, cM_came, cM_got, cM_held, cM_off, cM_gets, (upd cM_gotNow y2.toNatClampNeg (cM_gets y2.toNatClampNeg))))))
noncomputable def f_X8_keepGets_L7 (x1 : Int32) (k : Nat) : (Int32 × Int32 × Int32 × Int32 × Int32 × Int32 × Int32 × (Nat → Int32) × (Nat → Int32) × (Nat → Int32) × (Nat → Int32) × (Nat → Int32) × (Nat → Int32) × (Nat → Int32) × (Nat → Int32)) → Option (Int32 × Int32 × Int32 × Int32 × Int32 × Int32 × (Nat → Int32) × (Nat → Int32) × (Nat → Int32) × (Nat → Int32) × (Nat → Int32) × (Nat → Int32) × (Nat → Int32) × (Nat → Int32)) := lp (fun rc v => f_X8_keepGets_L7_b x1 rc v.1 v.2.1 v.2.2.1 v.2.2.2.1 v.2.2.2.2.1 v.2.2.2.2.2.1 v.2.2.2.2.2.2.1 v.2.2.2.2.2.2.2.1 v.2.2.2.2.2.2.2.2.1 v.2.2.2.2.2.2.2.2.2.1 v.2.2.2.2.2.2.2.2.2.2.1 v.2.2.2.2.2.2.2.2.2.2.2.1 v.2.2.2.2.2.2.2.2.2.2.2.2.1 v.2.2.2.2.2.2.2.2.2.2.2.2.2.1 v.2.2.2.2.2.2.2.2.2.2.2.2.2.2) k
theorem f_X8_keepGets_L7_s (x1 : Int32) (k : Nat) (y2 : Int32) (vM_leaked : Int32) (vM_keptAll : Int32) (vM_offAll : Int32) (vM_triedOff : Int32) (vM_triedLeaked : Int32) (vM_triedKept : Int32) (cM_d : Nat → Int32) (cM_f : Nat → Int32) (cM_came : Nat → Int32) (cM_got : Nat → Int32) (cM_held : Nat → Int32) (cM_off : Nat → Int32) (cM_gets : Nat → Int32) (cM_gotNow : Nat → Int32) : f_X8_keepGets_L7 x1 (k + 1) (y2, vM_leaked, vM_keptAll, vM_offAll, vM_triedOff, vM_triedLeaked, vM_triedKept, cM_d, cM_f, cM_came, cM_got, cM_held, cM_off, cM_gets, cM_gotNow) = f_X8_keepGets_L7_b x1 (f_X8_keepGets_L7 x1 k) y2 vM_leaked vM_keptAll vM_offAll vM_triedOff vM_triedLeaked vM_triedKept cM_d cM_f cM_came cM_got cM_held cM_off cM_gets cM_gotNow := rfl
theorem f_X8_keepGets_L7_0 (x1 : Int32) (v : Int32 × Int32 × Int32 × Int32 × Int32 × Int32 × Int32 × (Nat → Int32) × (Nat → Int32) × (Nat → Int32) × (Nat → Int32) × (Nat → Int32) × (Nat → Int32) × (Nat → Int32) × (Nat → Int32)) : f_X8_keepGets_L7 x1 0 v = none := rfl
noncomputable def f_X8_keepGets (x1 : Int32) (vM_leaked : Int32) (vM_keptAll : Int32) (vM_offAll : Int32) (vM_triedOff : Int32) (vM_triedLeaked : Int32) (vM_triedKept : Int32) (cM_d : Nat → Int32) (cM_f : Nat → Int32) (cM_came : Nat → Int32) (cM_got : Nat → Int32) (cM_held : Nat → Int32) (cM_off : Nat → Int32) (cM_gets : Nat → Int32) (cM_gotNow : Nat → Int32) : Option (Int32 × Int32 × Int32 × Int32 × Int32 × Int32 × (Nat → Int32) × (Nat → Int32) × (Nat → Int32) × (Nat → Int32) × (Nat → Int32) × (Nat → Int32) × (Nat → Int32) × (Nat → Int32)) :=
  bd (f_X8_tries x1 vM_leaked vM_keptAll vM_offAll vM_triedOff vM_triedLeaked vM_triedKept cM_d cM_f cM_came cM_got cM_held cM_off cM_gets) fun u1 =>
  f_X8_keepGets_L7 x1 FU ((0 : Int32), u1.1, u1.2.1, u1.2.2.1, u1.2.2.2.1, u1.2.2.2.2.1, u1.2.2.2.2.2.1, u1.2.2.2.2.2.2.1, u1.2.2.2.2.2.2.2.1, u1.2.2.2.2.2.2.2.2.1, u1.2.2.2.2.2.2.2.2.2.1, u1.2.2.2.2.2.2.2.2.2.2.1, u1.2.2.2.2.2.2.2.2.2.2.2.1, u1.2.2.2.2.2.2.2.2.2.2.2.2, cM_gotNow)
noncomputable def f_X8_getting_J61 (x1 : Int32) (cM_d : Nat → Int32) (cM_gets : Nat → Int32) (cM_gotNow : Nat → Int32) (rc4 : (Int32 × Int32) → Option (Int32)) (y2 : Int32) (y3 : Int32) (t0 : Int32) : Option (Int32) :=
  br (t0 = 0)
  (nm (y2 ||| (0 : Int32)) fun z3 =>
  rc4 (z3, (y3 + 1)))
  (nm (y2 ||| ((1 : Int32) <<< (y3 &&& 31))) fun z4 =>
  rc4 (z4, (y3 + 1)))
noncomputable def f_X8_getting_L4_b (x1 : Int32) (cM_d : Nat → Int32) (cM_gets : Nat → Int32) (cM_gotNow : Nat → Int32) (rc4 : (Int32 × Int32) → Option (Int32)) (y2 : Int32) (y3 : Int32) : Option (Int32) :=
  br ((cM_d (0 : Int32).toNatClampNeg) ≤ y3)
  (some y2)
  (br (x1 = 0)
  (gd (vp_in y3 10) (gd (vp_in y3 10) (br ((cM_gotNow y3.toNatClampNeg) ≤ (cM_gets y3.toNatClampNeg))
  (f_X8_getting_J61 x1 cM_d cM_gets cM_gotNow rc4 y2 y3 (0 : Int32))
  (f_X8_getting_J61 x1 cM_d cM_gets cM_gotNow rc4 y2 y3 (1 : Int32)))))
  (gd (vp_in y3 10) (gd (vp_in y3 10) (br ((cM_gets y3.toNatClampNeg) ≤ (cM_gotNow y3.toNatClampNeg))
  (f_X8_getting_J61 x1 cM_d cM_gets cM_gotNow rc4 y2 y3 (0 : Int32))
  (f_X8_getting_J61 x1 cM_d cM_gets cM_gotNow rc4 y2 y3 (1 : Int32))))))
noncomputable def f_X8_getting_L4 (x1 : Int32) (cM_d : Nat → Int32) (cM_gets : Nat → Int32) (cM_gotNow : Nat → Int32) (k : Nat) : (Int32 × Int32) → Option (Int32) := lp (fun rc v => f_X8_getting_L4_b x1 cM_d cM_gets cM_gotNow rc v.1 v.2) k
theorem f_X8_getting_L4_s (x1 : Int32) (cM_d : Nat → Int32) (cM_gets : Nat → Int32) (cM_gotNow : Nat → Int32) (k : Nat) (y2 : Int32) (y3 : Int32) : f_X8_getting_L4 x1 cM_d cM_gets cM_gotNow (k + 1) (y2, y3) = f_X8_getting_L4_b x1 cM_d cM_gets cM_gotNow (f_X8_getting_L4 x1 cM_d cM_gets cM_gotNow k) y2 y3 := rfl
theorem f_X8_getting_L4_0 (x1 : Int32) (cM_d : Nat → Int32) (cM_gets : Nat → Int32) (cM_gotNow : Nat → Int32) (v : Int32 × Int32) : f_X8_getting_L4 x1 cM_d cM_gets cM_gotNow 0 v = none := rfl
noncomputable def f_X8_getting (x1 : Int32) (cM_d : Nat → Int32) (cM_gets : Nat → Int32) (cM_gotNow : Nat → Int32) : Option (Int32) :=
  f_X8_getting_L4 x1 cM_d cM_gets cM_gotNow FU ((0 : Int32), (0 : Int32))
noncomputable def f_X8_hurt (x1 : Int32) (x2 : Int32) (vM_leaked : Int32) (vM_keptAll : Int32) (vM_offAll : Int32) (vM_triedOff : Int32) (vM_triedLeaked : Int32) (vM_triedKept : Int32) (cM_d : Nat → Int32) (cM_f : Nat → Int32) (cM_came : Nat → Int32) (cM_got : Nat → Int32) (cM_held : Nat → Int32) (cM_off : Nat → Int32) (cM_gets : Nat → Int32) (cM_gotNow : Nat → Int32) (cM_found : Nat → Int32) : Option (Int32 × Int32 × Int32 × Int32 × Int32 × Int32 × Int32 × (Nat → Int32) × (Nat → Int32) × (Nat → Int32) × (Nat → Int32) × (Nat → Int32) × (Nat → Int32) × (Nat → Int32) × (Nat → Int32) × (Nat → Int32)) :=
  bd (f_X8_why x1 x2 (0 : Int32) cM_d) fun u1 =>
  br (u1 < 0)
  (bd (f_X8_keepGets x2 vM_leaked vM_keptAll vM_offAll vM_triedOff vM_triedLeaked vM_triedKept cM_d cM_f cM_came cM_got cM_held cM_off cM_gets cM_gotNow) fun u3 =>
  bd (f_X8_its x1 (0 : Int32) u3.2.2.2.2.2.2.1) fun u4 =>
  bd (f_X8_sets x1 (0 : Int32) (1 : Int32) u3.2.2.2.2.2.2.1) fun u5 =>
  bd (f_X8_tries x2 u3.1 u3.2.1 u3.2.2.1 u3.2.2.2.1 u3.2.2.2.2.1 u3.2.2.2.2.2.1 u5 u3.2.2.2.2.2.2.2.1 u3.2.2.2.2.2.2.2.2.1 u3.2.2.2.2.2.2.2.2.2.1 u3.2.2.2.2.2.2.2.2.2.2.1 u3.2.2.2.2.2.2.2.2.2.2.2.1 u3.2.2.2.2.2.2.2.2.2.2.2.2.1) fun u6 =>
  bd (f_X8_sets x1 (0 : Int32) u4 u6.2.2.2.2.2.2.1) fun u7 =>
  bd (f_X8_getting (0 : Int32) u7 u6.2.2.2.2.2.2.2.2.2.2.2.2 u3.2.2.2.2.2.2.2.2.2.2.2.2.2) fun u8 =>
  some (u8, u6.1, u6.2.1, u6.2.2.1, u6.2.2.2.1, u6.2.2.2.2.1, u6.2.2.2.2.2.1, u7, u6.2.2.2.2.2.2.2.1, u6.2.2.2.2.2.2.2.2.1, u6.2.2.2.2.2.2.2.2.2.1, u6.2.2.2.2.2.2.2.2.2.2.1, u6.2.2.2.2.2.2.2.2.2.2.2.1, u6.2.2.2.2.2.2.2.2.2.2.2.2, u3.2.2.2.2.2.2.2.2.2.2.2.2.2, cM_found))
  (bd (f_X8_finds u1 cM_found) fun u9 =>
  some (u9.1, vM_leaked, vM_keptAll, vM_offAll, vM_triedOff, vM_triedLeaked, vM_triedKept, cM_d, cM_f, cM_came, cM_got, cM_held, cM_off, cM_gets, cM_gotNow, u9.2))
noncomputable def f_X8_deal_L38_b (x1 : Int32) (rc23 : (Int32 × Int32 × Int32 × Int32 × Int32 × Int32 × Int32 × (Nat → Int32) × (Nat → Int32) × (Nat → Int32) × (Nat → Int32) × (Nat → Int32) × (Nat → Int32) × (Nat → Int32) × (Nat → Int32) × (Nat → Int32)) → Option (Int32 × Int32 × Int32 × Int32 × Int32 × Int32 × Int32 × (Nat → Int32) × (Nat → Int32) × (Nat → Int32) × (Nat → Int32) × (Nat → Int32) × (Nat → Int32) × (Nat → Int32) × (Nat → Int32) × (Nat → Int32))) (rc38 : (Int32 × Int32 × Int32 × Int32 × Int32 × Int32 × Int32 × Int32 × (Nat → Int32) × (Nat → Int32) × (Nat → Int32) × (Nat → Int32) × (Nat → Int32) × (Nat → Int32) × (Nat → Int32) × (Nat → Int32) × (Nat → Int32)) → Option (Int32 × Int32 × Int32 × Int32 × Int32 × Int32 × Int32 × (Nat → Int32) × (Nat → Int32) × (Nat → Int32) × (Nat → Int32) × (Nat → Int32) × (Nat → Int32) × (Nat → Int32) × (Nat → Int32) × (Nat → Int32))) (y3 : Int32) (y4 : Int32) (vM_leaked : Int32) (vM_keptAll : Int32) (vM_offAll : Int32) (vM_triedOff : Int32) (vM_triedLeaked : Int32) (vM_triedKept : Int32) (cM_d : Nat → Int32) (cM_f : Nat → Int32) (cM_came : Nat → Int32) (cM_got : Nat → Int32) (cM_held : Nat → Int32) (cM_off : Nat → Int32) (cM_gets : Nat → Int32) (cM_gotNow : Nat → Int32) (cM_found : Nat → Int32) : Option (Int32 × Int32 × Int32 × Int32 × Int32 × Int32 × Int32 × (Nat → Int32) × (Nat → Int32) × (Nat → Int32) × (Nat → Int32) × (Nat → Int32) × (Nat → Int32) × (Nat → Int32) × (Nat → Int32) × (Nat → Int32)) :=
  br ((cM_d (0 : Int32).toNatClampNeg) ≤ y4)
  (rc23 ((y3 + 1), vM_leaked, vM_keptAll, vM_offAll, vM_triedOff, vM_triedLeaked, vM_triedKept, cM_d, cM_f, cM_came, cM_got, cM_held, cM_off, cM_gets, cM_gotNow, cM_found))
  (bd (f_X8_its y3 (1 : Int32) cM_d) fun u8 =>
  bd (f_X8_its y4 (1 : Int32) cM_d) fun u9 =>
  br (u9 < y3)
  (bd (f_X8_sets y3 (1 : Int32) u9 cM_d) fun u11 =>
  bd (f_X8_sets y4 (1 : Int32) u8 u11) fun u12 =>
  bd (f_X8_tries x1 vM_leaked vM_keptAll vM_offAll vM_triedOff vM_triedLeaked vM_triedKept u12 cM_f cM_came cM_got cM_held cM_off cM_gets) fun u13 =>
  bd (f_X8_sets y3 (1 : Int32) u8 u13.2.2.2.2.2.2.1) fun u14 =>
  bd (f_X8_sets y4 (1 : Int32) u9 u14) fun u15 =>
  nm (((1 : Int32) <<< (y3 &&& 31)) ||| ((1 : Int32) <<< (y4 &&& 31))) fun z16 =>
  bd (f_X8_getting (1 : Int32) u15 u13.2.2.2.2.2.2.2.2.2.2.2.2 cM_gotNow) fun u17 =>
  br ((u17 &&& z16) = z16)
  (some ((((10 : Int32) * y3) + y4), u13.1, u13.2.1, u13.2.2.1, u13.2.2.2.1, u13.2.2.2.2.1, u13.2.2.2.2.2.1, u15, u13.2.2.2.2.2.2.2.1, u13.2.2.2.2.2.2.2.2.1, u13.2.2.2.2.2.2.2.2.2.1, u13.2.2.2.2.2.2.2.2.2.2.1, u13.2.2.2.2.2.2.2.2.2.2.2.1, u13.2.2.2.2.2.2.2.2.2.2.2.2, cM_gotNow, cM_found))
  (rc38 (y3, (y4 + 1), u13.1, u13.2.1, u13.2.2.1, u13.2.2.2.1, u13.2.2.2.2.1, u13.2.2.2.2.2.1, u15, u13.2.2.2.2.2.2.2.1, u13.2.2.2.2.2.2.2.2.1, u13.2.2.2.2.2.2.2.2.2.1, u13.2.2.2.2.2.2.2.2.2.2.1, u13.2.2.2.2.2.2.2.2.2.2.2.1, u13.2.2.2.2.2.2.2.2.2.2.2.2, cM_gotNow, cM_found)))
  (rc38 (y3, (y4 + 1), vM_leaked, vM_keptAll, vM_offAll, vM_triedOff, vM_triedLeaked, vM_triedKept, cM_d, cM_f, cM_came, cM_got, cM_held, cM_off, cM_gets, cM_gotNow, cM_found)))
noncomputable def f_X8_deal_L38 (x1 : Int32) (rc23 : (Int32 × Int32 × Int32 × Int32 × Int32 × Int32 × Int32 × (Nat → Int32) × (Nat → Int32) × (Nat → Int32) × (Nat → Int32) × (Nat → Int32) × (Nat → Int32) × (Nat → Int32) × (Nat → Int32) × (Nat → Int32)) → Option (Int32 × Int32 × Int32 × Int32 × Int32 × Int32 × Int32 × (Nat → Int32) × (Nat → Int32) × (Nat → Int32) × (Nat → Int32) × (Nat → Int32) × (Nat → Int32) × (Nat → Int32) × (Nat → Int32) × (Nat → Int32))) (k : Nat) : (Int32 × Int32 × Int32 × Int32 × Int32 × Int32 × Int32 × Int32 × (Nat → Int32) × (Nat → Int32) × (Nat → Int32) × (Nat → Int32) × (Nat → Int32) × (Nat → Int32) × (Nat → Int32) × (Nat → Int32) × (Nat → Int32)) → Option (Int32 × Int32 × Int32 × Int32 × Int32 × Int32 × Int32 × (Nat → Int32) × (Nat → Int32) × (Nat → Int32) × (Nat → Int32) × (Nat → Int32) × (Nat → Int32) × (Nat → Int32) × (Nat → Int32) × (Nat → Int32)) := lp (fun rc v => f_X8_deal_L38_b x1 rc23 rc v.1 v.2.1 v.2.2.1 v.2.2.2.1 v.2.2.2.2.1 v.2.2.2.2.2.1 v.2.2.2.2.2.2.1 v.2.2.2.2.2.2.2.1 v.2.2.2.2.2.2.2.2.1 v.2.2.2.2.2.2.2.2.2.1 v.2.2.2.2.2.2.2.2.2.2.1 v.2.2.2.2.2.2.2.2.2.2.2.1 v.2.2.2.2.2.2.2.2.2.2.2.2.1 v.2.2.2.2.2.2.2.2.2.2.2.2.2.1 v.2.2.2.2.2.2.2.2.2.2.2.2.2.2.1 v.2.2.2.2.2.2.2.2.2.2.2.2.2.2.2.1 v.2.2.2.2.2.2.2.2.2.2.2.2.2.2.2.2) k
theorem f_X8_deal_L38_s (x1 : Int32) (rc23 : (Int32 × Int32 × Int32 × Int32 × Int32 × Int32 × Int32 × (Nat → Int32) × (Nat → Int32) × (Nat → Int32) × (Nat → Int32) × (Nat → Int32) × (Nat → Int32) × (Nat → Int32) × (Nat → Int32) × (Nat → Int32)) → Option (Int32 × Int32 × Int32 × Int32 × Int32 × Int32 × Int32 × (Nat → Int32) × (Nat → Int32) × (Nat → Int32) × (Nat → Int32) × (Nat → Int32) × (Nat → Int32) × (Nat → Int32) × (Nat → Int32) × (Nat → Int32))) (k : Nat) (y3 : Int32) (y4 : Int32) (vM_leaked : Int32) (vM_keptAll : Int32) (vM_offAll : Int32) (vM_triedOff : Int32) (vM_triedLeaked : Int32) (vM_triedKept : Int32) (cM_d : Nat → Int32) (cM_f : Nat → Int32) (cM_came : Nat → Int32) (cM_got : Nat → Int32) (cM_held : Nat → Int32) (cM_off : Nat → Int32) (cM_gets : Nat → Int32) (cM_gotNow : Nat → Int32) (cM_found : Nat → Int32) : f_X8_deal_L38 x1 rc23 (k + 1) (y3, y4, vM_leaked, vM_keptAll, vM_offAll, vM_triedOff, vM_triedLeaked, vM_triedKept, cM_d, cM_f, cM_came, cM_got, cM_held, cM_off, cM_gets, cM_gotNow, cM_found) = f_X8_deal_L38_b x1 rc23 (f_X8_deal_L38 x1 rc23 k) y3 y4 vM_leaked vM_keptAll vM_offAll vM_triedOff vM_triedLeaked vM_triedKept cM_d cM_f cM_came cM_got cM_held cM_off cM_gets cM_gotNow cM_found := rfl
theorem f_X8_deal_L38_0 (x1 : Int32) (rc23 : (Int32 × Int32 × Int32 × Int32 × Int32 × Int32 × Int32 × (Nat → Int32) × (Nat → Int32) × (Nat → Int32) × (Nat → Int32) × (Nat → Int32) × (Nat → Int32) × (Nat → Int32) × (Nat → Int32) × (Nat → Int32)) → Option (Int32 × Int32 × Int32 × Int32 × Int32 × Int32 × Int32 × (Nat → Int32) × (Nat → Int32) × (Nat → Int32) × (Nat → Int32) × (Nat → Int32) × (Nat → Int32) × (Nat → Int32) × (Nat → Int32) × (Nat → Int32))) (v : Int32 × Int32 × Int32 × Int32 × Int32 × Int32 × Int32 × Int32 × (Nat → Int32) × (Nat → Int32) × (Nat → Int32) × (Nat → Int32) × (Nat → Int32) × (Nat → Int32) × (Nat → Int32) × (Nat → Int32) × (Nat → Int32)) : f_X8_deal_L38 x1 rc23 0 v = none := rfl
noncomputable def f_X8_deal_L23_b (x1 : Int32) (rc23 : (Int32 × Int32 × Int32 × Int32 × Int32 × Int32 × Int32 × (Nat → Int32) × (Nat → Int32) × (Nat → Int32) × (Nat → Int32) × (Nat → Int32) × (Nat → Int32) × (Nat → Int32) × (Nat → Int32) × (Nat → Int32)) → Option (Int32 × Int32 × Int32 × Int32 × Int32 × Int32 × Int32 × (Nat → Int32) × (Nat → Int32) × (Nat → Int32) × (Nat → Int32) × (Nat → Int32) × (Nat → Int32) × (Nat → Int32) × (Nat → Int32) × (Nat → Int32))) (y3 : Int32) (vM_leaked : Int32) (vM_keptAll : Int32) (vM_offAll : Int32) (vM_triedOff : Int32) (vM_triedLeaked : Int32) (vM_triedKept : Int32) (cM_d : Nat → Int32) (cM_f : Nat → Int32) (cM_came : Nat → Int32) (cM_got : Nat → Int32) (cM_held : Nat → Int32) (cM_off : Nat → Int32) (cM_gets : Nat → Int32) (cM_gotNow : Nat → Int32) (cM_found : Nat → Int32) : Option (Int32 × Int32 × Int32 × Int32 × Int32 × Int32 × Int32 × (Nat → Int32) × (Nat → Int32) × (Nat → Int32) × (Nat → Int32) × (Nat → Int32) × (Nat → Int32) × (Nat → Int32) × (Nat → Int32) × (Nat → Int32)) :=
  br ((cM_d (0 : Int32).toNatClampNeg) ≤ y3)
  (bd (f_X8_finds (3 : Int32) cM_found) fun u5 =>
  some (u5.1, vM_leaked, vM_keptAll, vM_offAll, vM_triedOff, vM_triedLeaked, vM_triedKept, cM_d, cM_f, cM_came, cM_got, cM_held, cM_off, cM_gets, cM_gotNow, u5.2))
  (nm (y3 + (1 : Int32)) fun z6 =>
  f_X8_deal_L38 x1 rc23 FU (y3, z6, vM_leaked, vM_keptAll, vM_offAll, vM_triedOff, vM_triedLeaked, vM_triedKept, cM_d, cM_f, cM_came, cM_got, cM_held, cM_off, cM_gets, cM_gotNow, cM_found))
noncomputable def f_X8_deal_L23 (x1 : Int32) (k : Nat) : (Int32 × Int32 × Int32 × Int32 × Int32 × Int32 × Int32 × (Nat → Int32) × (Nat → Int32) × (Nat → Int32) × (Nat → Int32) × (Nat → Int32) × (Nat → Int32) × (Nat → Int32) × (Nat → Int32) × (Nat → Int32)) → Option (Int32 × Int32 × Int32 × Int32 × Int32 × Int32 × Int32 × (Nat → Int32) × (Nat → Int32) × (Nat → Int32) × (Nat → Int32) × (Nat → Int32) × (Nat → Int32) × (Nat → Int32) × (Nat → Int32) × (Nat → Int32)) := lp (fun rc v => f_X8_deal_L23_b x1 rc v.1 v.2.1 v.2.2.1 v.2.2.2.1 v.2.2.2.2.1 v.2.2.2.2.2.1 v.2.2.2.2.2.2.1 v.2.2.2.2.2.2.2.1 v.2.2.2.2.2.2.2.2.1 v.2.2.2.2.2.2.2.2.2.1 v.2.2.2.2.2.2.2.2.2.2.1 v.2.2.2.2.2.2.2.2.2.2.2.1 v.2.2.2.2.2.2.2.2.2.2.2.2.1 v.2.2.2.2.2.2.2.2.2.2.2.2.2.1 v.2.2.2.2.2.2.2.2.2.2.2.2.2.2.1 v.2.2.2.2.2.2.2.2.2.2.2.2.2.2.2) k
theorem f_X8_deal_L23_s (x1 : Int32) (k : Nat) (y3 : Int32) (vM_leaked : Int32) (vM_keptAll : Int32) (vM_offAll : Int32) (vM_triedOff : Int32) (vM_triedLeaked : Int32) (vM_triedKept : Int32) (cM_d : Nat → Int32) (cM_f : Nat → Int32) (cM_came : Nat → Int32) (cM_got : Nat → Int32) (cM_held : Nat → Int32) (cM_off : Nat → Int32) (cM_gets : Nat → Int32) (cM_gotNow : Nat → Int32) (cM_found : Nat → Int32) : f_X8_deal_L23 x1 (k + 1) (y3, vM_leaked, vM_keptAll, vM_offAll, vM_triedOff, vM_triedLeaked, vM_triedKept, cM_d, cM_f, cM_came, cM_got, cM_held, cM_off, cM_gets, cM_gotNow, cM_found) = f_X8_deal_L23_b x1 (f_X8_deal_L23 x1 k) y3 vM_leaked vM_keptAll vM_offAll vM_triedOff vM_triedLeaked vM_triedKept cM_d cM_f cM_came cM_got cM_held cM_off cM_gets cM_gotNow cM_found := rfl
theorem f_X8_deal_L23_0 (x1 : Int32) (v : Int32 × Int32 × Int32 × Int32 × Int32 × Int32 × Int32 × (Nat → Int32) × (Nat → Int32) × (Nat → Int32) × (Nat → Int32) × (Nat → Int32) × (Nat → Int32) × (Nat → Int32) × (Nat → Int32) × (Nat → Int32)) : f_X8_deal_L23 x1 0 v = none := rfl
noncomputable def f_X8_deal (x1 : Int32) (vM_leaked : Int32) (vM_keptAll : Int32) (vM_offAll : Int32) (vM_triedOff : Int32) (vM_triedLeaked : Int32) (vM_triedKept : Int32) (cM_d : Nat → Int32) (cM_f : Nat → Int32) (cM_came : Nat → Int32) (cM_got : Nat → Int32) (cM_held : Nat → Int32) (cM_off : Nat → Int32) (cM_gets : Nat → Int32) (cM_gotNow : Nat → Int32) (cM_found : Nat → Int32) : Option (Int32 × Int32 × Int32 × Int32 × Int32 × Int32 × Int32 × (Nat → Int32) × (Nat → Int32) × (Nat → Int32) × (Nat → Int32) × (Nat → Int32) × (Nat → Int32) × (Nat → Int32) × (Nat → Int32) × (Nat → Int32)) :=
  bd (f_X8_whyHours x1 cM_d) fun u1 =>
  br (u1 < 0)
  (bd (f_X8_keepGets x1 vM_leaked vM_keptAll vM_offAll vM_triedOff vM_triedLeaked vM_triedKept cM_d cM_f cM_came cM_got cM_held cM_off cM_gets cM_gotNow) fun u3 =>
  f_X8_deal_L23 x1 FU ((1 : Int32), u3.1, u3.2.1, u3.2.2.1, u3.2.2.2.1, u3.2.2.2.2.1, u3.2.2.2.2.2.1, u3.2.2.2.2.2.2.1, u3.2.2.2.2.2.2.2.1, u3.2.2.2.2.2.2.2.2.1, u3.2.2.2.2.2.2.2.2.2.1, u3.2.2.2.2.2.2.2.2.2.2.1, u3.2.2.2.2.2.2.2.2.2.2.2.1, u3.2.2.2.2.2.2.2.2.2.2.2.2.1, u3.2.2.2.2.2.2.2.2.2.2.2.2.2, cM_found))
  (bd (f_X8_finds u1 cM_found) fun u19 =>
  some (u19.1, vM_leaked, vM_keptAll, vM_offAll, vM_triedOff, vM_triedLeaked, vM_triedKept, cM_d, cM_f, cM_came, cM_got, cM_held, cM_off, cM_gets, cM_gotNow, u19.2))
noncomputable def f_X8_law_J91 (x1 : Int32) (rc35 : (Int32 × Int32 × Int32 × Int32 × Int32 × Int32 × Int32 × Int32 × Int32 × (Nat → Int32) × (Nat → Int32) × (Nat → Int32) × (Nat → Int32) × (Nat → Int32) × (Nat → Int32) × (Nat → Int32) × (Nat → Int32) × (Nat → Int32)) → Option (Int32 × Int32 × Int32 × Int32 × Int32 × Int32 × Int32 × (Nat → Int32) × (Nat → Int32) × (Nat → Int32) × (Nat → Int32) × (Nat → Int32) × (Nat → Int32) × (Nat → Int32) × (Nat → Int32) × (Nat → Int32))) (y4 : Int32) (y5 : Int32) (t0 : Int32) (vM_leaked : Int32) (vM_keptAll : Int32) (vM_offAll : Int32) (vM_triedOff : Int32) (vM_triedLeaked : Int32) (vM_triedKept : Int32) (cM_d : Nat → Int32) (cM_e : Nat → Int32) (cM_found : Nat → Int32) (cM_f : Nat → Int32) (cM_came : Nat → Int32) (cM_got : Nat → Int32) (cM_held : Nat → Int32) (cM_off : Nat → Int32) (cM_gets : Nat → Int32) : Option (Int32 × Int32 × Int32 × Int32 × Int32 × Int32 × Int32 × (Nat → Int32) × (Nat → Int32) × (Nat → Int32) × (Nat → Int32) × (Nat → Int32) × (Nat → Int32) × (Nat → Int32) × (Nat → Int32) × (Nat → Int32)) :=
  br (vM_triedKept ≤ y4)
  (rc35 (t0, y4, (y5 + 1), vM_leaked, vM_keptAll, vM_offAll, vM_triedOff, vM_triedLeaked, vM_triedKept, cM_d, cM_e, cM_found, cM_f, cM_came, cM_got, cM_held, cM_off, cM_gets))
  (rc35 (t0, vM_triedKept, (y5 + 1), vM_leaked, vM_keptAll, vM_offAll, vM_triedOff, vM_triedLeaked, vM_triedKept, cM_d, cM_e, cM_found, cM_f, cM_came, cM_got, cM_held, cM_off, cM_gets))
noncomputable def f_X8_law_J71 (x1 : Int32) (rc35 : (Int32 × Int32 × Int32 × Int32 × Int32 × Int32 × Int32 × Int32 × Int32 × (Nat → Int32) × (Nat → Int32) × (Nat → Int32) × (Nat → Int32) × (Nat → Int32) × (Nat → Int32) × (Nat → Int32) × (Nat → Int32) × (Nat → Int32)) → Option (Int32 × Int32 × Int32 × Int32 × Int32 × Int32 × Int32 × (Nat → Int32) × (Nat → Int32) × (Nat → Int32) × (Nat → Int32) × (Nat → Int32) × (Nat → Int32) × (Nat → Int32) × (Nat → Int32) × (Nat → Int32))) (y3 : Int32) (y4 : Int32) (y5 : Int32) (vM_leaked : Int32) (vM_keptAll : Int32) (vM_offAll : Int32) (vM_triedOff : Int32) (vM_triedLeaked : Int32) (vM_triedKept : Int32) (cM_d : Nat → Int32) (cM_e : Nat → Int32) (cM_found : Nat → Int32) (cM_f : Nat → Int32) (cM_came : Nat → Int32) (cM_got : Nat → Int32) (cM_held : Nat → Int32) (cM_off : Nat → Int32) (cM_gets : Nat → Int32) : Option (Int32 × Int32 × Int32 × Int32 × Int32 × Int32 × Int32 × (Nat → Int32) × (Nat → Int32) × (Nat → Int32) × (Nat → Int32) × (Nat → Int32) × (Nat → Int32) × (Nat → Int32) × (Nat → Int32) × (Nat → Int32)) :=
  bd (f_X8_tries x1 vM_leaked vM_keptAll vM_offAll vM_triedOff vM_triedLeaked vM_triedKept cM_d cM_f cM_came cM_got cM_held cM_off cM_gets) fun u6 =>
  br (u6.2.2.2.2.2.1 ≤ y4)
  (f_X8_law_J91 x1 rc35 y4 y5 y3 u6.1 u6.2.1 u6.2.2.1 u6.2.2.2.1 u6.2.2.2.2.1 u6.2.2.2.2.2.1 u6.2.2.2.2.2.2.1 cM_e cM_found u6.2.2.2.2.2.2.2.1 u6.2.2.2.2.2.2.2.2.1 u6.2.2.2.2.2.2.2.2.2.1 u6.2.2.2.2.2.2.2.2.2.2.1 u6.2.2.2.2.2.2.2.2.2.2.2.1 u6.2.2.2.2.2.2.2.2.2.2.2.2)
  (f_X8_law_J91 x1 rc35 y4 y5 y5 u6.1 u6.2.1 u6.2.2.1 u6.2.2.2.1 u6.2.2.2.2.1 u6.2.2.2.2.2.1 u6.2.2.2.2.2.2.1 cM_e cM_found u6.2.2.2.2.2.2.2.1 u6.2.2.2.2.2.2.2.2.1 u6.2.2.2.2.2.2.2.2.2.1 u6.2.2.2.2.2.2.2.2.2.2.1 u6.2.2.2.2.2.2.2.2.2.2.2.1 u6.2.2.2.2.2.2.2.2.2.2.2.2)
noncomputable def f_X8_law_L45_b (x1 : Int32) (rc35 : (Int32 × Int32 × Int32 × Int32 × Int32 × Int32 × Int32 × Int32 × Int32 × (Nat → Int32) × (Nat → Int32) × (Nat → Int32) × (Nat → Int32) × (Nat → Int32) × (Nat → Int32) × (Nat → Int32) × (Nat → Int32) × (Nat → Int32)) → Option (Int32 × Int32 × Int32 × Int32 × Int32 × Int32 × Int32 × (Nat → Int32) × (Nat → Int32) × (Nat → Int32) × (Nat → Int32) × (Nat → Int32) × (Nat → Int32) × (Nat → Int32) × (Nat → Int32) × (Nat → Int32))) (rc45 : (Int32 × Int32 × Int32 × Int32 × Int32 × Int32 × Int32 × Int32 × Int32 × Int32 × (Nat → Int32) × (Nat → Int32) × (Nat → Int32) × (Nat → Int32) × (Nat → Int32) × (Nat → Int32) × (Nat → Int32) × (Nat → Int32) × (Nat → Int32)) → Option (Int32 × Int32 × Int32 × Int32 × Int32 × Int32 × Int32 × (Nat → Int32) × (Nat → Int32) × (Nat → Int32) × (Nat → Int32) × (Nat → Int32) × (Nat → Int32) × (Nat → Int32) × (Nat → Int32) × (Nat → Int32))) (y3 : Int32) (y4 : Int32) (y5 : Int32) (y6 : Int32) (vM_leaked : Int32) (vM_keptAll : Int32) (vM_offAll : Int32) (vM_triedOff : Int32) (vM_triedLeaked : Int32) (vM_triedKept : Int32) (cM_d : Nat → Int32) (cM_e : Nat → Int32) (cM_found : Nat → Int32) (cM_f : Nat → Int32) (cM_came : Nat → Int32) (cM_got : Nat → Int32) (cM_held : Nat → Int32) (cM_off : Nat → Int32) (cM_gets : Nat → Int32) : Option (Int32 × Int32 × Int32 × Int32 × Int32 × Int32 × Int32 × (Nat → Int32) × (Nat → Int32) × (Nat → Int32) × (Nat → Int32) × (Nat → Int32) × (Nat → Int32) × (Nat → Int32) × (Nat → Int32) × (Nat → Int32)) :=
  br ((cM_d (0 : Int32).toNatClampNeg) ≤ y6)
  (f_X8_law_J71 x1 rc35 y3 y4 y5 vM_leaked vM_keptAll vM_offAll vM_triedOff vM_triedLeaked vM_triedKept cM_d cM_e cM_found cM_f cM_came cM_got cM_held cM_off cM_gets)
  (bd (f_X8_sets y6 (0 : Int32) y5 cM_d) fun u10 =>
  rc45 (y3, y4, y5, (y6 + 1), vM_leaked, vM_keptAll, vM_offAll, vM_triedOff, vM_triedLeaked, vM_triedKept, u10, cM_e, cM_found, cM_f, cM_came, cM_got, cM_held, cM_off, cM_gets))
noncomputable def f_X8_law_L45 (x1 : Int32) (rc35 : (Int32 × Int32 × Int32 × Int32 × Int32 × Int32 × Int32 × Int32 × Int32 × (Nat → Int32) × (Nat → Int32) × (Nat → Int32) × (Nat → Int32) × (Nat → Int32) × (Nat → Int32) × (Nat → Int32) × (Nat → Int32) × (Nat → Int32)) → Option (Int32 × Int32 × Int32 × Int32 × Int32 × Int32 × Int32 × (Nat → Int32) × (Nat → Int32) × (Nat → Int32) × (Nat → Int32) × (Nat → Int32) × (Nat → Int32) × (Nat → Int32) × (Nat → Int32) × (Nat → Int32))) (k : Nat) : (Int32 × Int32 × Int32 × Int32 × Int32 × Int32 × Int32 × Int32 × Int32 × Int32 × (Nat → Int32) × (Nat → Int32) × (Nat → Int32) × (Nat → Int32) × (Nat → Int32) × (Nat → Int32) × (Nat → Int32) × (Nat → Int32) × (Nat → Int32)) → Option (Int32 × Int32 × Int32 × Int32 × Int32 × Int32 × Int32 × (Nat → Int32) × (Nat → Int32) × (Nat → Int32) × (Nat → Int32) × (Nat → Int32) × (Nat → Int32) × (Nat → Int32) × (Nat → Int32) × (Nat → Int32)) := lp (fun rc v => f_X8_law_L45_b x1 rc35 rc v.1 v.2.1 v.2.2.1 v.2.2.2.1 v.2.2.2.2.1 v.2.2.2.2.2.1 v.2.2.2.2.2.2.1 v.2.2.2.2.2.2.2.1 v.2.2.2.2.2.2.2.2.1 v.2.2.2.2.2.2.2.2.2.1 v.2.2.2.2.2.2.2.2.2.2.1 v.2.2.2.2.2.2.2.2.2.2.2.1 v.2.2.2.2.2.2.2.2.2.2.2.2.1 v.2.2.2.2.2.2.2.2.2.2.2.2.2.1 v.2.2.2.2.2.2.2.2.2.2.2.2.2.2.1 v.2.2.2.2.2.2.2.2.2.2.2.2.2.2.2.1 v.2.2.2.2.2.2.2.2.2.2.2.2.2.2.2.2.1 v.2.2.2.2.2.2.2.2.2.2.2.2.2.2.2.2.2.1 v.2.2.2.2.2.2.2.2.2.2.2.2.2.2.2.2.2.2) k
theorem f_X8_law_L45_s (x1 : Int32) (rc35 : (Int32 × Int32 × Int32 × Int32 × Int32 × Int32 × Int32 × Int32 × Int32 × (Nat → Int32) × (Nat → Int32) × (Nat → Int32) × (Nat → Int32) × (Nat → Int32) × (Nat → Int32) × (Nat → Int32) × (Nat → Int32) × (Nat → Int32)) → Option (Int32 × Int32 × Int32 × Int32 × Int32 × Int32 × Int32 × (Nat → Int32) × (Nat → Int32) × (Nat → Int32) × (Nat → Int32) × (Nat → Int32) × (Nat → Int32) × (Nat → Int32) × (Nat → Int32) × (Nat → Int32))) (k : Nat) (y3 : Int32) (y4 : Int32) (y5 : Int32) (y6 : Int32) (vM_leaked : Int32) (vM_keptAll : Int32) (vM_offAll : Int32) (vM_triedOff : Int32) (vM_triedLeaked : Int32) (vM_triedKept : Int32) (cM_d : Nat → Int32) (cM_e : Nat → Int32) (cM_found : Nat → Int32) (cM_f : Nat → Int32) (cM_came : Nat → Int32) (cM_got : Nat → Int32) (cM_held : Nat → Int32) (cM_off : Nat → Int32) (cM_gets : Nat → Int32) : f_X8_law_L45 x1 rc35 (k + 1) (y3, y4, y5, y6, vM_leaked, vM_keptAll, vM_offAll, vM_triedOff, vM_triedLeaked, vM_triedKept, cM_d, cM_e, cM_found, cM_f, cM_came, cM_got, cM_held, cM_off, cM_gets) = f_X8_law_L45_b x1 rc35 (f_X8_law_L45 x1 rc35 k) y3 y4 y5 y6 vM_leaked vM_keptAll vM_offAll vM_triedOff vM_triedLeaked vM_triedKept cM_d cM_e cM_found cM_f cM_came cM_got cM_held cM_off cM_gets := rfl
theorem f_X8_law_L45_0 (x1 : Int32) (rc35 : (Int32 × Int32 × Int32 × Int32 × Int32 × Int32 × Int32 × Int32 × Int32 × (Nat → Int32) × (Nat → Int32) × (Nat → Int32) × (Nat → Int32) × (Nat → Int32) × (Nat → Int32) × (Nat → Int32) × (Nat → Int32) × (Nat → Int32)) → Option (Int32 × Int32 × Int32 × Int32 × Int32 × Int32 × Int32 × (Nat → Int32) × (Nat → Int32) × (Nat → Int32) × (Nat → Int32) × (Nat → Int32) × (Nat → Int32) × (Nat → Int32) × (Nat → Int32) × (Nat → Int32))) (v : Int32 × Int32 × Int32 × Int32 × Int32 × Int32 × Int32 × Int32 × Int32 × Int32 × (Nat → Int32) × (Nat → Int32) × (Nat → Int32) × (Nat → Int32) × (Nat → Int32) × (Nat → Int32) × (Nat → Int32) × (Nat → Int32) × (Nat → Int32)) : f_X8_law_L45 x1 rc35 0 v = none := rfl
noncomputable def f_X8_law_J118 (x1 : Int32) (y3 : Int32) (vM_leaked : Int32) (vM_keptAll : Int32) (vM_offAll : Int32) (vM_triedOff : Int32) (vM_triedLeaked : Int32) (vM_triedKept : Int32) (cM_d : Nat → Int32) (cM_e : Nat → Int32) (cM_found : Nat → Int32) (cM_f : Nat → Int32) (cM_came : Nat → Int32) (cM_got : Nat → Int32) (cM_held : Nat → Int32) (cM_off : Nat → Int32) (cM_gets : Nat → Int32) : Option (Int32 × Int32 × Int32 × Int32 × Int32 × Int32 × Int32 × (Nat → Int32) × (Nat → Int32) × (Nat → Int32) × (Nat → Int32) × (Nat → Int32) × (Nat → Int32) × (Nat → Int32) × (Nat → Int32) × (Nat → Int32)) :=
  bd (f_X8_copies cM_e cM_d) fun u4 =>
  some (y3, vM_leaked, vM_keptAll, vM_offAll, vM_triedOff, vM_triedLeaked, vM_triedKept, u4, cM_e, cM_found, cM_f, cM_came, cM_got, cM_held, cM_off, cM_gets)
noncomputable def f_X8_law_L35_b (x1 : Int32) (rc35 : (Int32 × Int32 × Int32 × Int32 × Int32 × Int32 × Int32 × Int32 × Int32 × (Nat → Int32) × (Nat → Int32) × (Nat → Int32) × (Nat → Int32) × (Nat → Int32) × (Nat → Int32) × (Nat → Int32) × (Nat → Int32) × (Nat → Int32)) → Option (Int32 × Int32 × Int32 × Int32 × Int32 × Int32 × Int32 × (Nat → Int32) × (Nat → Int32) × (Nat → Int32) × (Nat → Int32) × (Nat → Int32) × (Nat → Int32) × (Nat → Int32) × (Nat → Int32) × (Nat → Int32))) (y3 : Int32) (y4 : Int32) (y5 : Int32) (vM_leaked : Int32) (vM_keptAll : Int32) (vM_offAll : Int32) (vM_triedOff : Int32) (vM_triedLeaked : Int32) (vM_triedKept : Int32) (cM_d : Nat → Int32) (cM_e : Nat → Int32) (cM_found : Nat → Int32) (cM_f : Nat → Int32) (cM_came : Nat → Int32) (cM_got : Nat → Int32) (cM_held : Nat → Int32) (cM_off : Nat → Int32) (cM_gets : Nat → Int32) : Option (Int32 × Int32 × Int32 × Int32 × Int32 × Int32 × Int32 × (Nat → Int32) × (Nat → Int32) × (Nat → Int32) × (Nat → Int32) × (Nat → Int32) × (Nat → Int32) × (Nat → Int32) × (Nat → Int32) × (Nat → Int32)) :=
  br ((7 : Int32) ≤ y5)
  (f_X8_law_J118 x1 y3 vM_leaked vM_keptAll vM_offAll vM_triedOff vM_triedLeaked vM_triedKept cM_d cM_e cM_found cM_f cM_came cM_got cM_held cM_off cM_gets)
  (f_X8_law_L45 x1 rc35 FU (y3, y4, y5, (0 : Int32), vM_leaked, vM_keptAll, vM_offAll, vM_triedOff, vM_triedLeaked, vM_triedKept, cM_d, cM_e, cM_found, cM_f, cM_came, cM_got, cM_held, cM_off, cM_gets))
noncomputable def f_X8_law_L35 (x1 : Int32) (k : Nat) : (Int32 × Int32 × Int32 × Int32 × Int32 × Int32 × Int32 × Int32 × Int32 × (Nat → Int32) × (Nat → Int32) × (Nat → Int32) × (Nat → Int32) × (Nat → Int32) × (Nat → Int32) × (Nat → Int32) × (Nat → Int32) × (Nat → Int32)) → Option (Int32 × Int32 × Int32 × Int32 × Int32 × Int32 × Int32 × (Nat → Int32) × (Nat → Int32) × (Nat → Int32) × (Nat → Int32) × (Nat → Int32) × (Nat → Int32) × (Nat → Int32) × (Nat → Int32) × (Nat → Int32)) := lp (fun rc v => f_X8_law_L35_b x1 rc v.1 v.2.1 v.2.2.1 v.2.2.2.1 v.2.2.2.2.1 v.2.2.2.2.2.1 v.2.2.2.2.2.2.1 v.2.2.2.2.2.2.2.1 v.2.2.2.2.2.2.2.2.1 v.2.2.2.2.2.2.2.2.2.1 v.2.2.2.2.2.2.2.2.2.2.1 v.2.2.2.2.2.2.2.2.2.2.2.1 v.2.2.2.2.2.2.2.2.2.2.2.2.1 v.2.2.2.2.2.2.2.2.2.2.2.2.2.1 v.2.2.2.2.2.2.2.2.2.2.2.2.2.2.1 v.2.2.2.2.2.2.2.2.2.2.2.2.2.2.2.1 v.2.2.2.2.2.2.2.2.2.2.2.2.2.2.2.2.1 v.2.2.2.2.2.2.2.2.2.2.2.2.2.2.2.2.2) k
theorem f_X8_law_L35_s (x1 : Int32) (k : Nat) (y3 : Int32) (y4 : Int32) (y5 : Int32) (vM_leaked : Int32) (vM_keptAll : Int32) (vM_offAll : Int32) (vM_triedOff : Int32) (vM_triedLeaked : Int32) (vM_triedKept : Int32) (cM_d : Nat → Int32) (cM_e : Nat → Int32) (cM_found : Nat → Int32) (cM_f : Nat → Int32) (cM_came : Nat → Int32) (cM_got : Nat → Int32) (cM_held : Nat → Int32) (cM_off : Nat → Int32) (cM_gets : Nat → Int32) : f_X8_law_L35 x1 (k + 1) (y3, y4, y5, vM_leaked, vM_keptAll, vM_offAll, vM_triedOff, vM_triedLeaked, vM_triedKept, cM_d, cM_e, cM_found, cM_f, cM_came, cM_got, cM_held, cM_off, cM_gets) = f_X8_law_L35_b x1 (f_X8_law_L35 x1 k) y3 y4 y5 vM_leaked vM_keptAll vM_offAll vM_triedOff vM_triedLeaked vM_triedKept cM_d cM_e cM_found cM_f cM_came cM_got cM_held cM_off cM_gets := rfl
theorem f_X8_law_L35_0 (x1 : Int32) (v : Int32 × Int32 × Int32 × Int32 × Int32 × Int32 × Int32 × Int32 × Int32 × (Nat → Int32) × (Nat → Int32) × (Nat → Int32) × (Nat → Int32) × (Nat → Int32) × (Nat → Int32) × (Nat → Int32) × (Nat → Int32) × (Nat → Int32)) : f_X8_law_L35 x1 0 v = none := rfl
noncomputable def f_X8_law (x1 : Int32) (vM_leaked : Int32) (vM_keptAll : Int32) (vM_offAll : Int32) (vM_triedOff : Int32) (vM_triedLeaked : Int32) (vM_triedKept : Int32) (cM_d : Nat → Int32) (cM_e : Nat → Int32) (cM_found : Nat → Int32) (cM_f : Nat → Int32) (cM_came : Nat → Int32) (cM_got : Nat → Int32) (cM_held : Nat → Int32) (cM_off : Nat → Int32) (cM_gets : Nat → Int32) : Option (Int32 × Int32 × Int32 × Int32 × Int32 × Int32 × Int32 × (Nat → Int32) × (Nat → Int32) × (Nat → Int32) × (Nat → Int32) × (Nat → Int32) × (Nat → Int32) × (Nat → Int32) × (Nat → Int32) × (Nat → Int32)) :=
  bd (f_X8_whyHours x1 cM_d) fun u1 =>
  br (u1 < 0)
  (bd (f_X8_copies cM_d cM_e) fun u3 =>
  f_X8_law_L35 x1 FU ((0 : Int32), (-1 : Int32), (0 : Int32), vM_leaked, vM_keptAll, vM_offAll, vM_triedOff, vM_triedLeaked, vM_triedKept, cM_d, u3, cM_found, cM_f, cM_came, cM_got, cM_held, cM_off, cM_gets))
  (bd (f_X8_finds u1 cM_found) fun u11 =>
  some (u11.1, vM_leaked, vM_keptAll, vM_offAll, vM_triedOff, vM_triedLeaked, vM_triedKept, cM_d, cM_e, u11.2, cM_f, cM_came, cM_got, cM_held, cM_off, cM_gets))
noncomputable def f_X8_ones_L4_b (x0 : Int32) (rc4 : (Int32 × Int32) → Option (Int32)) (y1 : Int32) (y2 : Int32) : Option (Int32) :=
  br ((10 : Int32) ≤ y2)
  (some y1)
  (nm (y1 + ((x0 >>> (y2 &&& 31)) &&& (1 : Int32))) fun z2 =>
  rc4 (z2, (y2 + 1)))
noncomputable def f_X8_ones_L4 (x0 : Int32) (k : Nat) : (Int32 × Int32) → Option (Int32) := lp (fun rc v => f_X8_ones_L4_b x0 rc v.1 v.2) k
theorem f_X8_ones_L4_s (x0 : Int32) (k : Nat) (y1 : Int32) (y2 : Int32) : f_X8_ones_L4 x0 (k + 1) (y1, y2) = f_X8_ones_L4_b x0 (f_X8_ones_L4 x0 k) y1 y2 := rfl
theorem f_X8_ones_L4_0 (x0 : Int32) (v : Int32 × Int32) : f_X8_ones_L4 x0 0 v = none := rfl
noncomputable def f_X8_ones (x0 : Int32) : Option (Int32) :=
  f_X8_ones_L4 x0 FU ((0 : Int32), (0 : Int32))
noncomputable def f_X8_generous_L44_b (x1 : Int32) (rc44 : (Int32 × Int32 × Int32 × Int32 × Int32 × Int32 × Int32 × Int32 × Int32 × (Nat → Int32) × (Nat → Int32) × (Nat → Int32) × (Nat → Int32) × (Nat → Int32) × (Nat → Int32) × (Nat → Int32) × (Nat → Int32) × (Nat → Int32)) → Option (Int32 × Int32 × Int32 × Int32 × Int32 × Int32 × Int32 × (Nat → Int32) × (Nat → Int32) × (Nat → Int32) × (Nat → Int32) × (Nat → Int32) × (Nat → Int32) × (Nat → Int32) × (Nat → Int32) × (Nat → Int32))) (y3 : Int32) (y4 : Int32) (y5 : Int32) (vM_leaked : Int32) (vM_keptAll : Int32) (vM_offAll : Int32) (vM_triedOff : Int32) (vM_triedLeaked : Int32) (vM_triedKept : Int32) (cM_d : Nat → Int32) (cM_f : Nat → Int32) (cM_came : Nat → Int32) (cM_got : Nat → Int32) (cM_held : Nat → Int32) (cM_off : Nat → Int32) (cM_gets : Nat → Int32) (cM_gotNow : Nat → Int32) (cM_found : Nat → Int32) : Option (Int32 × Int32 × Int32 × Int32 × Int32 × Int32 × Int32 × (Nat → Int32) × (Nat → Int32) × (Nat → Int32) × (Nat → Int32) × (Nat → Int32) × (Nat → Int32) × (Nat → Int32) × (Nat → Int32) × (Nat → Int32)) :=
  br ((cM_d (0 : Int32).toNatClampNeg) ≤ y5)
  (some (y3, vM_leaked, vM_keptAll, vM_offAll, vM_triedOff, vM_triedLeaked, vM_triedKept, cM_d, cM_f, cM_came, cM_got, cM_held, cM_off, cM_gets, cM_gotNow, cM_found))
  (bd (f_X8_its y5 (0 : Int32) cM_d) fun u6 =>
  bd (f_X8_sets y5 (0 : Int32) (3 : Int32) cM_d) fun u7 =>
  bd (f_X8_tries x1 vM_leaked vM_keptAll vM_offAll vM_triedOff vM_triedLeaked vM_triedKept u7 cM_f cM_came cM_got cM_held cM_off cM_gets) fun u8 =>
  bd (f_X8_sets y5 (0 : Int32) u6 u8.2.2.2.2.2.2.1) fun u9 =>
  bd (f_X8_getting (1 : Int32) u9 u8.2.2.2.2.2.2.2.2.2.2.2.2 cM_gotNow) fun u10 =>
  bd (f_X8_ones (u10 &&& (((1 : Int32) <<< (y5 &&& 31)) ^^^ (-1 : Int32)))) fun u11 =>
  br (u11 ≤ y4)
  (br (u11 ≤ y4)
  (rc44 (y3, y4, (y5 + 1), u8.1, u8.2.1, u8.2.2.1, u8.2.2.2.1, u8.2.2.2.2.1, u8.2.2.2.2.2.1, u9, u8.2.2.2.2.2.2.2.1, u8.2.2.2.2.2.2.2.2.1, u8.2.2.2.2.2.2.2.2.2.1, u8.2.2.2.2.2.2.2.2.2.2.1, u8.2.2.2.2.2.2.2.2.2.2.2.1, u8.2.2.2.2.2.2.2.2.2.2.2.2, cM_gotNow, cM_found))
  (rc44 (y3, u11, (y5 + 1), u8.1, u8.2.1, u8.2.2.1, u8.2.2.2.1, u8.2.2.2.2.1, u8.2.2.2.2.2.1, u9, u8.2.2.2.2.2.2.2.1, u8.2.2.2.2.2.2.2.2.1, u8.2.2.2.2.2.2.2.2.2.1, u8.2.2.2.2.2.2.2.2.2.2.1, u8.2.2.2.2.2.2.2.2.2.2.2.1, u8.2.2.2.2.2.2.2.2.2.2.2.2, cM_gotNow, cM_found)))
  (br (u11 ≤ y4)
  (rc44 (y5, y4, (y5 + 1), u8.1, u8.2.1, u8.2.2.1, u8.2.2.2.1, u8.2.2.2.2.1, u8.2.2.2.2.2.1, u9, u8.2.2.2.2.2.2.2.1, u8.2.2.2.2.2.2.2.2.1, u8.2.2.2.2.2.2.2.2.2.1, u8.2.2.2.2.2.2.2.2.2.2.1, u8.2.2.2.2.2.2.2.2.2.2.2.1, u8.2.2.2.2.2.2.2.2.2.2.2.2, cM_gotNow, cM_found))
  (rc44 (y5, u11, (y5 + 1), u8.1, u8.2.1, u8.2.2.1, u8.2.2.2.1, u8.2.2.2.2.1, u8.2.2.2.2.2.1, u9, u8.2.2.2.2.2.2.2.1, u8.2.2.2.2.2.2.2.2.1, u8.2.2.2.2.2.2.2.2.2.1, u8.2.2.2.2.2.2.2.2.2.2.1, u8.2.2.2.2.2.2.2.2.2.2.2.1, u8.2.2.2.2.2.2.2.2.2.2.2.2, cM_gotNow, cM_found))))
noncomputable def f_X8_generous_L44 (x1 : Int32) (k : Nat) : (Int32 × Int32 × Int32 × Int32 × Int32 × Int32 × Int32 × Int32 × Int32 × (Nat → Int32) × (Nat → Int32) × (Nat → Int32) × (Nat → Int32) × (Nat → Int32) × (Nat → Int32) × (Nat → Int32) × (Nat → Int32) × (Nat → Int32)) → Option (Int32 × Int32 × Int32 × Int32 × Int32 × Int32 × Int32 × (Nat → Int32) × (Nat → Int32) × (Nat → Int32) × (Nat → Int32) × (Nat → Int32) × (Nat → Int32) × (Nat → Int32) × (Nat → Int32) × (Nat → Int32)) := lp (fun rc v => f_X8_generous_L44_b x1 rc v.1 v.2.1 v.2.2.1 v.2.2.2.1 v.2.2.2.2.1 v.2.2.2.2.2.1 v.2.2.2.2.2.2.1 v.2.2.2.2.2.2.2.1 v.2.2.2.2.2.2.2.2.1 v.2.2.2.2.2.2.2.2.2.1 v.2.2.2.2.2.2.2.2.2.2.1 v.2.2.2.2.2.2.2.2.2.2.2.1 v.2.2.2.2.2.2.2.2.2.2.2.2.1 v.2.2.2.2.2.2.2.2.2.2.2.2.2.1 v.2.2.2.2.2.2.2.2.2.2.2.2.2.2.1 v.2.2.2.2.2.2.2.2.2.2.2.2.2.2.2.1 v.2.2.2.2.2.2.2.2.2.2.2.2.2.2.2.2.1 v.2.2.2.2.2.2.2.2.2.2.2.2.2.2.2.2.2) k
theorem f_X8_generous_L44_s (x1 : Int32) (k : Nat) (y3 : Int32) (y4 : Int32) (y5 : Int32) (vM_leaked : Int32) (vM_keptAll : Int32) (vM_offAll : Int32) (vM_triedOff : Int32) (vM_triedLeaked : Int32) (vM_triedKept : Int32) (cM_d : Nat → Int32) (cM_f : Nat → Int32) (cM_came : Nat → Int32) (cM_got : Nat → Int32) (cM_held : Nat → Int32) (cM_off : Nat → Int32) (cM_gets : Nat → Int32) (cM_gotNow : Nat → Int32) (cM_found : Nat → Int32) : f_X8_generous_L44 x1 (k + 1) (y3, y4, y5, vM_leaked, vM_keptAll, vM_offAll, vM_triedOff, vM_triedLeaked, vM_triedKept, cM_d, cM_f, cM_came, cM_got, cM_held, cM_off, cM_gets, cM_gotNow, cM_found) = f_X8_generous_L44_b x1 (f_X8_generous_L44 x1 k) y3 y4 y5 vM_leaked vM_keptAll vM_offAll vM_triedOff vM_triedLeaked vM_triedKept cM_d cM_f cM_came cM_got cM_held cM_off cM_gets cM_gotNow cM_found := rfl
theorem f_X8_generous_L44_0 (x1 : Int32) (v : Int32 × Int32 × Int32 × Int32 × Int32 × Int32 × Int32 × Int32 × Int32 × (Nat → Int32) × (Nat → Int32) × (Nat → Int32) × (Nat → Int32) × (Nat → Int32) × (Nat → Int32) × (Nat → Int32) × (Nat → Int32) × (Nat → Int32)) : f_X8_generous_L44 x1 0 v = none := rfl
noncomputable def f_X8_generous (x1 : Int32) (vM_leaked : Int32) (vM_keptAll : Int32) (vM_offAll : Int32) (vM_triedOff : Int32) (vM_triedLeaked : Int32) (vM_triedKept : Int32) (cM_d : Nat → Int32) (cM_f : Nat → Int32) (cM_came : Nat → Int32) (cM_got : Nat → Int32) (cM_held : Nat → Int32) (cM_off : Nat → Int32) (cM_gets : Nat → Int32) (cM_gotNow : Nat → Int32) (cM_found : Nat → Int32) : Option (Int32 × Int32 × Int32 × Int32 × Int32 × Int32 × Int32 × (Nat → Int32) × (Nat → Int32) × (Nat → Int32) × (Nat → Int32) × (Nat → Int32) × (Nat → Int32) × (Nat → Int32) × (Nat → Int32) × (Nat → Int32)) :=
  bd (f_X8_whyHours x1 cM_d) fun u1 =>
  br (u1 < 0)
  (br ((cM_d (0 : Int32).toNatClampNeg) = 0)
  (bd (f_X8_finds (3 : Int32) cM_found) fun u15 =>
  some (u15.1, vM_leaked, vM_keptAll, vM_offAll, vM_triedOff, vM_triedLeaked, vM_triedKept, cM_d, cM_f, cM_came, cM_got, cM_held, cM_off, cM_gets, cM_gotNow, u15.2))
  (bd (f_X8_keepGets x1 vM_leaked vM_keptAll vM_offAll vM_triedOff vM_triedLeaked vM_triedKept cM_d cM_f cM_came cM_got cM_held cM_off cM_gets cM_gotNow) fun u4 =>
  f_X8_generous_L44 x1 FU ((0 : Int32), (-1 : Int32), (0 : Int32), u4.1, u4.2.1, u4.2.2.1, u4.2.2.2.1, u4.2.2.2.2.1, u4.2.2.2.2.2.1, u4.2.2.2.2.2.2.1, u4.2.2.2.2.2.2.2.1, u4.2.2.2.2.2.2.2.2.1, u4.2.2.2.2.2.2.2.2.2.1, u4.2.2.2.2.2.2.2.2.2.2.1, u4.2.2.2.2.2.2.2.2.2.2.2.1, u4.2.2.2.2.2.2.2.2.2.2.2.2.1, u4.2.2.2.2.2.2.2.2.2.2.2.2.2, cM_found)))
  (bd (f_X8_finds u1 cM_found) fun u16 =>
  some (u16.1, vM_leaked, vM_keptAll, vM_offAll, vM_triedOff, vM_triedLeaked, vM_triedKept, cM_d, cM_f, cM_came, cM_got, cM_held, cM_off, cM_gets, cM_gotNow, u16.2))
noncomputable def f_X8_findChips_J172 (x1 : Int32) (cM_sizeOf : Nat → Int32) (cM_number : Nat → Int32) (rc42 : (Int32 × Int32 × Int32 × Int32 × Int32 × Int32 × Int32 × Int32 × (Nat → Int32) × (Nat → Int32) × (Nat → Int32) × (Nat → Int32) × (Nat → Int32) × (Nat → Int32)) → Option (Int32 × Int32 × Int32 × Int32 × Int32 × Int32 × Int32 × (Nat → Int32) × (Nat → Int32) × (Nat → Int32) × (Nat → Int32) × (Nat → Int32) × (Nat → Int32))) (y2 : Int32) (t1 : Int32) (vM_leaked : Int32) (vM_keptAll : Int32) (vM_offAll : Int32) (vM_fitting : Int32) (vM_firstSet : Int32) (vM_inAll : Int32) (vM_inAny : Int32) (cM_d : Nat → Int32) (cM_e : Nat → Int32) (cM_came : Nat → Int32) (cM_got : Nat → Int32) (cM_held : Nat → Int32) (cM_off : Nat → Int32) : Option (Int32 × Int32 × Int32 × Int32 × Int32 × Int32 × Int32 × (Nat → Int32) × (Nat → Int32) × (Nat → Int32) × (Nat → Int32) × (Nat → Int32) × (Nat → Int32)) :=
  rc42 ((y2 + 1), vM_leaked, vM_keptAll, vM_offAll, (vM_fitting + (1 : Int32)), t1, (vM_inAll &&& y2), (vM_inAny ||| y2), cM_d, cM_e, cM_came, cM_got, cM_held, cM_off)
noncomputable def f_X8_findChips_J152 (x1 : Int32) (cM_sizeOf : Nat → Int32) (cM_number : Nat → Int32) (rc42 : (Int32 × Int32 × Int32 × Int32 × Int32 × Int32 × Int32 × Int32 × (Nat → Int32) × (Nat → Int32) × (Nat → Int32) × (Nat → Int32) × (Nat → Int32) × (Nat → Int32)) → Option (Int32 × Int32 × Int32 × Int32 × Int32 × Int32 × Int32 × (Nat → Int32) × (Nat → Int32) × (Nat → Int32) × (Nat → Int32) × (Nat → Int32) × (Nat → Int32))) (y2 : Int32) (y3 : Int32) (vM_leaked : Int32) (vM_keptAll : Int32) (vM_offAll : Int32) (vM_fitting : Int32) (vM_firstSet : Int32) (vM_inAll : Int32) (vM_inAny : Int32) (cM_d : Nat → Int32) (cM_e : Nat → Int32) (cM_came : Nat → Int32) (cM_got : Nat → Int32) (cM_held : Nat → Int32) (cM_off : Nat → Int32) : Option (Int32 × Int32 × Int32 × Int32 × Int32 × Int32 × Int32 × (Nat → Int32) × (Nat → Int32) × (Nat → Int32) × (Nat → Int32) × (Nat → Int32) × (Nat → Int32)) :=
  br (y3 = 0)
  (rc42 ((y2 + 1), vM_leaked, vM_keptAll, vM_offAll, vM_fitting, vM_firstSet, vM_inAll, vM_inAny, cM_d, cM_e, cM_came, cM_got, cM_held, cM_off))
  (br (vM_fitting = 0)
  (f_X8_findChips_J172 x1 cM_sizeOf cM_number rc42 y2 y2 vM_leaked vM_keptAll vM_offAll vM_fitting vM_firstSet vM_inAll vM_inAny cM_d cM_e cM_came cM_got cM_held cM_off)
  (f_X8_findChips_J172 x1 cM_sizeOf cM_number rc42 y2 vM_firstSet vM_leaked vM_keptAll vM_offAll vM_fitting vM_firstSet vM_inAll vM_inAny cM_d cM_e cM_came cM_got cM_held cM_off))
noncomputable def f_X8_findChips_L92_b (x1 : Int32) (cM_sizeOf : Nat → Int32) (cM_number : Nat → Int32) (rc42 : (Int32 × Int32 × Int32 × Int32 × Int32 × Int32 × Int32 × Int32 × (Nat → Int32) × (Nat → Int32) × (Nat → Int32) × (Nat → Int32) × (Nat → Int32) × (Nat → Int32)) → Option (Int32 × Int32 × Int32 × Int32 × Int32 × Int32 × Int32 × (Nat → Int32) × (Nat → Int32) × (Nat → Int32) × (Nat → Int32) × (Nat → Int32) × (Nat → Int32))) (rc92 : (Int32 × Int32 × Int32 × Int32 × Int32 × Int32 × Int32 × Int32 × Int32 × Int32 × (Nat → Int32) × (Nat → Int32) × (Nat → Int32) × (Nat → Int32) × (Nat → Int32) × (Nat → Int32)) → Option (Int32 × Int32 × Int32 × Int32 × Int32 × Int32 × Int32 × (Nat → Int32) × (Nat → Int32) × (Nat → Int32) × (Nat → Int32) × (Nat → Int32) × (Nat → Int32))) (y2 : Int32) (y3 : Int32) (y4 : Int32) (vM_leaked : Int32) (vM_keptAll : Int32) (vM_offAll : Int32) (vM_fitting : Int32) (vM_firstSet : Int32) (vM_inAll : Int32) (vM_inAny : Int32) (cM_d : Nat → Int32) (cM_e : Nat → Int32) (cM_came : Nat → Int32) (cM_got : Nat → Int32) (cM_held : Nat → Int32) (cM_off : Nat → Int32) : Option (Int32 × Int32 × Int32 × Int32 × Int32 × Int32 × Int32 × (Nat → Int32) × (Nat → Int32) × (Nat → Int32) × (Nat → Int32) × (Nat → Int32) × (Nat → Int32)) :=
  br ((cM_d (0 : Int32).toNatClampNeg) ≤ y4)
  (f_X8_findChips_J152 x1 cM_sizeOf cM_number rc42 y2 y3 vM_leaked vM_keptAll vM_offAll vM_fitting vM_firstSet vM_inAll vM_inAny cM_d cM_e cM_came cM_got cM_held cM_off)
  (gd (vp_in x1 4) (br ((cM_sizeOf x1.toNatClampNeg) ≤ y4)
  (f_X8_findChips_J152 x1 cM_sizeOf cM_number rc42 y2 y3 vM_leaked vM_keptAll vM_offAll vM_fitting vM_firstSet vM_inAll vM_inAny cM_d cM_e cM_came cM_got cM_held cM_off)
  (br (y3 = 0)
  (rc92 (y2, (0 : Int32), (y4 + 1), vM_leaked, vM_keptAll, vM_offAll, vM_fitting, vM_firstSet, vM_inAll, vM_inAny, cM_d, cM_e, cM_came, cM_got, cM_held, cM_off))
  (gd (vp_in y4 10) (gd (vp_in (((40 : Int32) * x1) + y4) 160) (br ((cM_got y4.toNatClampNeg) = (cM_number (((40 : Int32) * x1) + y4).toNatClampNeg))
  (rc92 (y2, (1 : Int32), (y4 + 1), vM_leaked, vM_keptAll, vM_offAll, vM_fitting, vM_firstSet, vM_inAll, vM_inAny, cM_d, cM_e, cM_came, cM_got, cM_held, cM_off))
  (rc92 (y2, (0 : Int32), (y4 + 1), vM_leaked, vM_keptAll, vM_offAll, vM_fitting, vM_firstSet, vM_inAll, vM_inAny, cM_d, cM_e, cM_came, cM_got, cM_held, cM_off))))))))
noncomputable def f_X8_findChips_L92 (x1 : Int32) (cM_sizeOf : Nat → Int32) (cM_number : Nat → Int32) (rc42 : (Int32 × Int32 × Int32 × Int32 × Int32 × Int32 × Int32 × Int32 × (Nat → Int32) × (Nat → Int32) × (Nat → Int32) × (Nat → Int32) × (Nat → Int32) × (Nat → Int32)) → Option (Int32 × Int32 × Int32 × Int32 × Int32 × Int32 × Int32 × (Nat → Int32) × (Nat → Int32) × (Nat → Int32) × (Nat → Int32) × (Nat → Int32) × (Nat → Int32))) (k : Nat) : (Int32 × Int32 × Int32 × Int32 × Int32 × Int32 × Int32 × Int32 × Int32 × Int32 × (Nat → Int32) × (Nat → Int32) × (Nat → Int32) × (Nat → Int32) × (Nat → Int32) × (Nat → Int32)) → Option (Int32 × Int32 × Int32 × Int32 × Int32 × Int32 × Int32 × (Nat → Int32) × (Nat → Int32) × (Nat → Int32) × (Nat → Int32) × (Nat → Int32) × (Nat → Int32)) := lp (fun rc v => f_X8_findChips_L92_b x1 cM_sizeOf cM_number rc42 rc v.1 v.2.1 v.2.2.1 v.2.2.2.1 v.2.2.2.2.1 v.2.2.2.2.2.1 v.2.2.2.2.2.2.1 v.2.2.2.2.2.2.2.1 v.2.2.2.2.2.2.2.2.1 v.2.2.2.2.2.2.2.2.2.1 v.2.2.2.2.2.2.2.2.2.2.1 v.2.2.2.2.2.2.2.2.2.2.2.1 v.2.2.2.2.2.2.2.2.2.2.2.2.1 v.2.2.2.2.2.2.2.2.2.2.2.2.2.1 v.2.2.2.2.2.2.2.2.2.2.2.2.2.2.1 v.2.2.2.2.2.2.2.2.2.2.2.2.2.2.2) k
theorem f_X8_findChips_L92_s (x1 : Int32) (cM_sizeOf : Nat → Int32) (cM_number : Nat → Int32) (rc42 : (Int32 × Int32 × Int32 × Int32 × Int32 × Int32 × Int32 × Int32 × (Nat → Int32) × (Nat → Int32) × (Nat → Int32) × (Nat → Int32) × (Nat → Int32) × (Nat → Int32)) → Option (Int32 × Int32 × Int32 × Int32 × Int32 × Int32 × Int32 × (Nat → Int32) × (Nat → Int32) × (Nat → Int32) × (Nat → Int32) × (Nat → Int32) × (Nat → Int32))) (k : Nat) (y2 : Int32) (y3 : Int32) (y4 : Int32) (vM_leaked : Int32) (vM_keptAll : Int32) (vM_offAll : Int32) (vM_fitting : Int32) (vM_firstSet : Int32) (vM_inAll : Int32) (vM_inAny : Int32) (cM_d : Nat → Int32) (cM_e : Nat → Int32) (cM_came : Nat → Int32) (cM_got : Nat → Int32) (cM_held : Nat → Int32) (cM_off : Nat → Int32) : f_X8_findChips_L92 x1 cM_sizeOf cM_number rc42 (k + 1) (y2, y3, y4, vM_leaked, vM_keptAll, vM_offAll, vM_fitting, vM_firstSet, vM_inAll, vM_inAny, cM_d, cM_e, cM_came, cM_got, cM_held, cM_off) = f_X8_findChips_L92_b x1 cM_sizeOf cM_number rc42 (f_X8_findChips_L92 x1 cM_sizeOf cM_number rc42 k) y2 y3 y4 vM_leaked vM_keptAll vM_offAll vM_fitting vM_firstSet vM_inAll vM_inAny cM_d cM_e cM_came cM_got cM_held cM_off := rfl
theorem f_X8_findChips_L92_0 (x1 : Int32) (cM_sizeOf : Nat → Int32) (cM_number : Nat → Int32) (rc42 : (Int32 × Int32 × Int32 × Int32 × Int32 × Int32 × Int32 × Int32 × (Nat → Int32) × (Nat → Int32) × (Nat → Int32) × (Nat → Int32) × (Nat → Int32) × (Nat → Int32)) → Option (Int32 × Int32 × Int32 × Int32 × Int32 × Int32 × Int32 × (Nat → Int32) × (Nat → Int32) × (Nat → Int32) × (Nat → Int32) × (Nat → Int32) × (Nat → Int32))) (v : Int32 × Int32 × Int32 × Int32 × Int32 × Int32 × Int32 × Int32 × Int32 × Int32 × (Nat → Int32) × (Nat → Int32) × (Nat → Int32) × (Nat → Int32) × (Nat → Int32) × (Nat → Int32)) : f_X8_findChips_L92 x1 cM_sizeOf cM_number rc42 0 v = none := rfl
noncomputable def f_X8_findChips_J83 (x1 : Int32) (cM_sizeOf : Nat → Int32) (cM_number : Nat → Int32) (rc42 : (Int32 × Int32 × Int32 × Int32 × Int32 × Int32 × Int32 × Int32 × (Nat → Int32) × (Nat → Int32) × (Nat → Int32) × (Nat → Int32) × (Nat → Int32) × (Nat → Int32)) → Option (Int32 × Int32 × Int32 × Int32 × Int32 × Int32 × Int32 × (Nat → Int32) × (Nat → Int32) × (Nat → Int32) × (Nat → Int32) × (Nat → Int32) × (Nat → Int32))) (y2 : Int32) (vM_leaked : Int32) (vM_keptAll : Int32) (vM_offAll : Int32) (vM_fitting : Int32) (vM_firstSet : Int32) (vM_inAll : Int32) (vM_inAny : Int32) (cM_d : Nat → Int32) (cM_e : Nat → Int32) (cM_came : Nat → Int32) (cM_got : Nat → Int32) (cM_held : Nat → Int32) (cM_off : Nat → Int32) : Option (Int32 × Int32 × Int32 × Int32 × Int32 × Int32 × Int32 × (Nat → Int32) × (Nat → Int32) × (Nat → Int32) × (Nat → Int32) × (Nat → Int32) × (Nat → Int32)) :=
  bd (f_X8_look vM_leaked vM_keptAll vM_offAll cM_d cM_came cM_got cM_held cM_off) fun u4 =>
  f_X8_findChips_L92 x1 cM_sizeOf cM_number rc42 FU (y2, (1 : Int32), (0 : Int32), u4.1, u4.2.1, u4.2.2.1, vM_fitting, vM_firstSet, vM_inAll, vM_inAny, cM_d, cM_e, u4.2.2.2.1, u4.2.2.2.2.1, u4.2.2.2.2.2.1, u4.2.2.2.2.2.2)
noncomputable def f_X8_findChips_L56_b (x1 : Int32) (cM_sizeOf : Nat → Int32) (cM_number : Nat → Int32) (rc42 : (Int32 × Int32 × Int32 × Int32 × Int32 × Int32 × Int32 × Int32 × (Nat → Int32) × (Nat → Int32) × (Nat → Int32) × (Nat → Int32) × (Nat → Int32) × (Nat → Int32)) → Option (Int32 × Int32 × Int32 × Int32 × Int32 × Int32 × Int32 × (Nat → Int32) × (Nat → Int32) × (Nat → Int32) × (Nat → Int32) × (Nat → Int32) × (Nat → Int32))) (rc56 : (Int32 × Int32 × Int32 × Int32 × Int32 × Int32 × Int32 × Int32 × Int32 × (Nat → Int32) × (Nat → Int32) × (Nat → Int32) × (Nat → Int32) × (Nat → Int32) × (Nat → Int32)) → Option (Int32 × Int32 × Int32 × Int32 × Int32 × Int32 × Int32 × (Nat → Int32) × (Nat → Int32) × (Nat → Int32) × (Nat → Int32) × (Nat → Int32) × (Nat → Int32))) (y2 : Int32) (y3 : Int32) (vM_leaked : Int32) (vM_keptAll : Int32) (vM_offAll : Int32) (vM_fitting : Int32) (vM_firstSet : Int32) (vM_inAll : Int32) (vM_inAny : Int32) (cM_d : Nat → Int32) (cM_e : Nat → Int32) (cM_came : Nat → Int32) (cM_got : Nat → Int32) (cM_held : Nat → Int32) (cM_off : Nat → Int32) : Option (Int32 × Int32 × Int32 × Int32 × Int32 × Int32 × Int32 × (Nat → Int32) × (Nat → Int32) × (Nat → Int32) × (Nat → Int32) × (Nat → Int32) × (Nat → Int32)) :=
  br ((cM_d (0 : Int32).toNatClampNeg) ≤ y3)
  (f_X8_findChips_J83 x1 cM_sizeOf cM_number rc42 y2 vM_leaked vM_keptAll vM_offAll vM_fitting vM_firstSet vM_inAll vM_inAny cM_d cM_e cM_came cM_got cM_held cM_off)
  (bd (f_X8_sets y3 (0 : Int32) ((y2 >>> (y3 &&& 31)) &&& (1 : Int32)) cM_d) fun u15 =>
  rc56 (y2, (y3 + 1), vM_leaked, vM_keptAll, vM_offAll, vM_fitting, vM_firstSet, vM_inAll, vM_inAny, u15, cM_e, cM_came, cM_got, cM_held, cM_off))
noncomputable def f_X8_findChips_L56 (x1 : Int32) (cM_sizeOf : Nat → Int32) (cM_number : Nat → Int32) (rc42 : (Int32 × Int32 × Int32 × Int32 × Int32 × Int32 × Int32 × Int32 × (Nat → Int32) × (Nat → Int32) × (Nat → Int32) × (Nat → Int32) × (Nat → Int32) × (Nat → Int32)) → Option (Int32 × Int32 × Int32 × Int32 × Int32 × Int32 × Int32 × (Nat → Int32) × (Nat → Int32) × (Nat → Int32) × (Nat → Int32) × (Nat → Int32) × (Nat → Int32))) (k : Nat) : (Int32 × Int32 × Int32 × Int32 × Int32 × Int32 × Int32 × Int32 × Int32 × (Nat → Int32) × (Nat → Int32) × (Nat → Int32) × (Nat → Int32) × (Nat → Int32) × (Nat → Int32)) → Option (Int32 × Int32 × Int32 × Int32 × Int32 × Int32 × Int32 × (Nat → Int32) × (Nat → Int32) × (Nat → Int32) × (Nat → Int32) × (Nat → Int32) × (Nat → Int32)) := lp (fun rc v => f_X8_findChips_L56_b x1 cM_sizeOf cM_number rc42 rc v.1 v.2.1 v.2.2.1 v.2.2.2.1 v.2.2.2.2.1 v.2.2.2.2.2.1 v.2.2.2.2.2.2.1 v.2.2.2.2.2.2.2.1 v.2.2.2.2.2.2.2.2.1 v.2.2.2.2.2.2.2.2.2.1 v.2.2.2.2.2.2.2.2.2.2.1 v.2.2.2.2.2.2.2.2.2.2.2.1 v.2.2.2.2.2.2.2.2.2.2.2.2.1 v.2.2.2.2.2.2.2.2.2.2.2.2.2.1 v.2.2.2.2.2.2.2.2.2.2.2.2.2.2) k
theorem f_X8_findChips_L56_s (x1 : Int32) (cM_sizeOf : Nat → Int32) (cM_number : Nat → Int32) (rc42 : (Int32 × Int32 × Int32 × Int32 × Int32 × Int32 × Int32 × Int32 × (Nat → Int32) × (Nat → Int32) × (Nat → Int32) × (Nat → Int32) × (Nat → Int32) × (Nat → Int32)) → Option (Int32 × Int32 × Int32 × Int32 × Int32 × Int32 × Int32 × (Nat → Int32) × (Nat → Int32) × (Nat → Int32) × (Nat → Int32) × (Nat → Int32) × (Nat → Int32))) (k : Nat) (y2 : Int32) (y3 : Int32) (vM_leaked : Int32) (vM_keptAll : Int32) (vM_offAll : Int32) (vM_fitting : Int32) (vM_firstSet : Int32) (vM_inAll : Int32) (vM_inAny : Int32) (cM_d : Nat → Int32) (cM_e : Nat → Int32) (cM_came : Nat → Int32) (cM_got : Nat → Int32) (cM_held : Nat → Int32) (cM_off : Nat → Int32) : f_X8_findChips_L56 x1 cM_sizeOf cM_number rc42 (k + 1) (y2, y3, vM_leaked, vM_keptAll, vM_offAll, vM_fitting, vM_firstSet, vM_inAll, vM_inAny, cM_d, cM_e, cM_came, cM_got, cM_held, cM_off) = f_X8_findChips_L56_b x1 cM_sizeOf cM_number rc42 (f_X8_findChips_L56 x1 cM_sizeOf cM_number rc42 k) y2 y3 vM_leaked vM_keptAll vM_offAll vM_fitting vM_firstSet vM_inAll vM_inAny cM_d cM_e cM_came cM_got cM_held cM_off := rfl
theorem f_X8_findChips_L56_0 (x1 : Int32) (cM_sizeOf : Nat → Int32) (cM_number : Nat → Int32) (rc42 : (Int32 × Int32 × Int32 × Int32 × Int32 × Int32 × Int32 × Int32 × (Nat → Int32) × (Nat → Int32) × (Nat → Int32) × (Nat → Int32) × (Nat → Int32) × (Nat → Int32)) → Option (Int32 × Int32 × Int32 × Int32 × Int32 × Int32 × Int32 × (Nat → Int32) × (Nat → Int32) × (Nat → Int32) × (Nat → Int32) × (Nat → Int32) × (Nat → Int32))) (v : Int32 × Int32 × Int32 × Int32 × Int32 × Int32 × Int32 × Int32 × Int32 × (Nat → Int32) × (Nat → Int32) × (Nat → Int32) × (Nat → Int32) × (Nat → Int32) × (Nat → Int32)) : f_X8_findChips_L56 x1 cM_sizeOf cM_number rc42 0 v = none := rfl
noncomputable def f_X8_findChips_J211 (x1 : Int32) (cM_sizeOf : Nat → Int32) (cM_number : Nat → Int32) (vM_leaked : Int32) (vM_keptAll : Int32) (vM_offAll : Int32) (vM_fitting : Int32) (vM_firstSet : Int32) (vM_inAll : Int32) (vM_inAny : Int32) (cM_d : Nat → Int32) (cM_e : Nat → Int32) (cM_came : Nat → Int32) (cM_got : Nat → Int32) (cM_held : Nat → Int32) (cM_off : Nat → Int32) : Option (Int32 × Int32 × Int32 × Int32 × Int32 × Int32 × Int32 × (Nat → Int32) × (Nat → Int32) × (Nat → Int32) × (Nat → Int32) × (Nat → Int32) × (Nat → Int32)) :=
  bd (f_X8_copies cM_e cM_d) fun u2 =>
  some (vM_leaked, vM_keptAll, vM_offAll, vM_fitting, vM_firstSet, vM_inAll, vM_inAny, u2, cM_e, cM_came, cM_got, cM_held, cM_off)
noncomputable def f_X8_findChips_L42_b (x1 : Int32) (cM_sizeOf : Nat → Int32) (cM_number : Nat → Int32) (rc42 : (Int32 × Int32 × Int32 × Int32 × Int32 × Int32 × Int32 × Int32 × (Nat → Int32) × (Nat → Int32) × (Nat → Int32) × (Nat → Int32) × (Nat → Int32) × (Nat → Int32)) → Option (Int32 × Int32 × Int32 × Int32 × Int32 × Int32 × Int32 × (Nat → Int32) × (Nat → Int32) × (Nat → Int32) × (Nat → Int32) × (Nat → Int32) × (Nat → Int32))) (y2 : Int32) (vM_leaked : Int32) (vM_keptAll : Int32) (vM_offAll : Int32) (vM_fitting : Int32) (vM_firstSet : Int32) (vM_inAll : Int32) (vM_inAny : Int32) (cM_d : Nat → Int32) (cM_e : Nat → Int32) (cM_came : Nat → Int32) (cM_got : Nat → Int32) (cM_held : Nat → Int32) (cM_off : Nat → Int32) : Option (Int32 × Int32 × Int32 × Int32 × Int32 × Int32 × Int32 × (Nat → Int32) × (Nat → Int32) × (Nat → Int32) × (Nat → Int32) × (Nat → Int32) × (Nat → Int32)) :=
  br (((1 : Int32) <<< ((cM_d (0 : Int32).toNatClampNeg) &&& 31)) ≤ y2)
  (f_X8_findChips_J211 x1 cM_sizeOf cM_number vM_leaked vM_keptAll vM_offAll vM_fitting vM_firstSet vM_inAll vM_inAny cM_d cM_e cM_came cM_got cM_held cM_off)
  (f_X8_findChips_L56 x1 cM_sizeOf cM_number rc42 FU (y2, (0 : Int32), vM_leaked, vM_keptAll, vM_offAll, vM_fitting, vM_firstSet, vM_inAll, vM_inAny, cM_d, cM_e, cM_came, cM_got, cM_held, cM_off))
noncomputable def f_X8_findChips_L42 (x1 : Int32) (cM_sizeOf : Nat → Int32) (cM_number : Nat → Int32) (k : Nat) : (Int32 × Int32 × Int32 × Int32 × Int32 × Int32 × Int32 × Int32 × (Nat → Int32) × (Nat → Int32) × (Nat → Int32) × (Nat → Int32) × (Nat → Int32) × (Nat → Int32)) → Option (Int32 × Int32 × Int32 × Int32 × Int32 × Int32 × Int32 × (Nat → Int32) × (Nat → Int32) × (Nat → Int32) × (Nat → Int32) × (Nat → Int32) × (Nat → Int32)) := lp (fun rc v => f_X8_findChips_L42_b x1 cM_sizeOf cM_number rc v.1 v.2.1 v.2.2.1 v.2.2.2.1 v.2.2.2.2.1 v.2.2.2.2.2.1 v.2.2.2.2.2.2.1 v.2.2.2.2.2.2.2.1 v.2.2.2.2.2.2.2.2.1 v.2.2.2.2.2.2.2.2.2.1 v.2.2.2.2.2.2.2.2.2.2.1 v.2.2.2.2.2.2.2.2.2.2.2.1 v.2.2.2.2.2.2.2.2.2.2.2.2.1 v.2.2.2.2.2.2.2.2.2.2.2.2.2) k
theorem f_X8_findChips_L42_s (x1 : Int32) (cM_sizeOf : Nat → Int32) (cM_number : Nat → Int32) (k : Nat) (y2 : Int32) (vM_leaked : Int32) (vM_keptAll : Int32) (vM_offAll : Int32) (vM_fitting : Int32) (vM_firstSet : Int32) (vM_inAll : Int32) (vM_inAny : Int32) (cM_d : Nat → Int32) (cM_e : Nat → Int32) (cM_came : Nat → Int32) (cM_got : Nat → Int32) (cM_held : Nat → Int32) (cM_off : Nat → Int32) : f_X8_findChips_L42 x1 cM_sizeOf cM_number (k + 1) (y2, vM_leaked, vM_keptAll, vM_offAll, vM_fitting, vM_firstSet, vM_inAll, vM_inAny, cM_d, cM_e, cM_came, cM_got, cM_held, cM_off) = f_X8_findChips_L42_b x1 cM_sizeOf cM_number (f_X8_findChips_L42 x1 cM_sizeOf cM_number k) y2 vM_leaked vM_keptAll vM_offAll vM_fitting vM_firstSet vM_inAll vM_inAny cM_d cM_e cM_came cM_got cM_held cM_off := rfl
theorem f_X8_findChips_L42_0 (x1 : Int32) (cM_sizeOf : Nat → Int32) (cM_number : Nat → Int32) (v : Int32 × Int32 × Int32 × Int32 × Int32 × Int32 × Int32 × Int32 × (Nat → Int32) × (Nat → Int32) × (Nat → Int32) × (Nat → Int32) × (Nat → Int32) × (Nat → Int32)) : f_X8_findChips_L42 x1 cM_sizeOf cM_number 0 v = none := rfl
noncomputable def f_X8_findChips (x1 : Int32) (vM_leaked : Int32) (vM_keptAll : Int32) (vM_offAll : Int32) (vM_fitting : Int32) (vM_firstSet : Int32) (vM_inAll : Int32) (vM_inAny : Int32) (cM_d : Nat → Int32) (cM_e : Nat → Int32) (cM_came : Nat → Int32) (cM_got : Nat → Int32) (cM_held : Nat → Int32) (cM_off : Nat → Int32) (cM_sizeOf : Nat → Int32) (cM_number : Nat → Int32) : Option (Int32 × Int32 × Int32 × Int32 × Int32 × Int32 × Int32 × (Nat → Int32) × (Nat → Int32) × (Nat → Int32) × (Nat → Int32) × (Nat → Int32) × (Nat → Int32)) :=
  bd (f_X8_copies cM_d cM_e) fun u1 =>
  f_X8_findChips_L42 x1 cM_sizeOf cM_number FU ((0 : Int32), vM_leaked, vM_keptAll, vM_offAll, (0 : Int32), (0 : Int32), (((1 : Int32) <<< ((cM_d (0 : Int32).toNatClampNeg) &&& 31)) - (1 : Int32)), (0 : Int32), cM_d, u1, cM_came, cM_got, cM_held, cM_off)
noncomputable def f_X8_isSheet (x0 : Int32) : Option (Int32) :=
  bd (f_X8_in x0.toInt64 (0 : Int64) (3 : Int64)) fun u1 =>
  gd (u1 = 0 ∨ u1 = 1) (some u1)
noncomputable def f_X8_whyNone (x1 : Int32) (cM_bitsOf : Nat → Int32) : Option (Int32) :=
  bd (f_X8_isSheet x1) fun u1 =>
  br (u1 = 0)
  (some (0 : Int32))
  (gd (vp_in x1 4) (br ((cM_bitsOf x1.toNatClampNeg) = 0)
  (some (5 : Int32))
  (some (-1 : Int32))))
noncomputable def f_X8_chips (x1 : Int32) (vM_leaked : Int32) (vM_keptAll : Int32) (vM_offAll : Int32) (vM_fitting : Int32) (vM_firstSet : Int32) (vM_inAll : Int32) (vM_inAny : Int32) (cM_bitsOf : Nat → Int32) (cM_d : Nat → Int32) (cM_e : Nat → Int32) (cM_came : Nat → Int32) (cM_got : Nat → Int32) (cM_held : Nat → Int32) (cM_off : Nat → Int32) (cM_sizeOf : Nat → Int32) (cM_number : Nat → Int32) (cM_found : Nat → Int32) : Option (Int32 × Int32 × Int32 × Int32 × Int32 × Int32 × Int32 × Int32 × (Nat → Int32) × (Nat → Int32) × (Nat → Int32) × (Nat → Int32) × (Nat → Int32) × (Nat → Int32) × (Nat → Int32)) :=
  bd (f_X8_whyNone x1 cM_bitsOf) fun u1 =>
  br (u1 < 0)
  (bd (f_X8_findChips x1 vM_leaked vM_keptAll vM_offAll vM_fitting vM_firstSet vM_inAll vM_inAny cM_d cM_e cM_came cM_got cM_held cM_off cM_sizeOf cM_number) fun u3 =>
  some (u3.2.2.2.1, u3.1, u3.2.1, u3.2.2.1, u3.2.2.2.1, u3.2.2.2.2.1, u3.2.2.2.2.2.1, u3.2.2.2.2.2.2.1, u3.2.2.2.2.2.2.2.1, u3.2.2.2.2.2.2.2.2.1, u3.2.2.2.2.2.2.2.2.2.1, u3.2.2.2.2.2.2.2.2.2.2.1, u3.2.2.2.2.2.2.2.2.2.2.2.1, u3.2.2.2.2.2.2.2.2.2.2.2.2, cM_found))
  (bd (f_X8_finds u1 cM_found) fun u4 =>
  some (u4.1, vM_leaked, vM_keptAll, vM_offAll, vM_fitting, vM_firstSet, vM_inAll, vM_inAny, cM_d, cM_e, cM_came, cM_got, cM_held, cM_off, u4.2))
noncomputable def f_X8_chipped (x1 : Int32) (x2 : Int32) (vM_leaked : Int32) (vM_keptAll : Int32) (vM_offAll : Int32) (vM_fitting : Int32) (vM_firstSet : Int32) (vM_inAll : Int32) (vM_inAny : Int32) (cM_bitsOf : Nat → Int32) (cM_d : Nat → Int32) (cM_e : Nat → Int32) (cM_came : Nat → Int32) (cM_got : Nat → Int32) (cM_held : Nat → Int32) (cM_off : Nat → Int32) (cM_sizeOf : Nat → Int32) (cM_number : Nat → Int32) (cM_found : Nat → Int32) : Option (Int32 × Int32 × Int32 × Int32 × Int32 × Int32 × Int32 × Int32 × (Nat → Int32) × (Nat → Int32) × (Nat → Int32) × (Nat → Int32) × (Nat → Int32) × (Nat → Int32) × (Nat → Int32)) :=
  bd (f_X8_in x2.toInt64 (0 : Int64) (2 : Int64)) fun u1 =>
  br (u1 = 0)
  (bd (f_X8_finds (0 : Int32) cM_found) fun u11 =>
  some (u11.1, vM_leaked, vM_keptAll, vM_offAll, vM_fitting, vM_firstSet, vM_inAll, vM_inAny, cM_d, cM_e, cM_came, cM_got, cM_held, cM_off, u11.2))
  (bd (f_X8_whyNone x1 cM_bitsOf) fun u3 =>
  br (u3 < 0)
  (bd (f_X8_findChips x1 vM_leaked vM_keptAll vM_offAll vM_fitting vM_firstSet vM_inAll vM_inAny cM_d cM_e cM_came cM_got cM_held cM_off cM_sizeOf cM_number) fun u5 =>
  br (u5.2.2.2.1 = 0)
  (bd (f_X8_finds (3 : Int32) cM_found) fun u9 =>
  some (u9.1, u5.1, u5.2.1, u5.2.2.1, u5.2.2.2.1, u5.2.2.2.2.1, u5.2.2.2.2.2.1, u5.2.2.2.2.2.2.1, u5.2.2.2.2.2.2.2.1, u5.2.2.2.2.2.2.2.2.1, u5.2.2.2.2.2.2.2.2.2.1, u5.2.2.2.2.2.2.2.2.2.2.1, u5.2.2.2.2.2.2.2.2.2.2.2.1, u5.2.2.2.2.2.2.2.2.2.2.2.2, u9.2))
  (br (x2 = 0)
  (some (u5.2.2.2.2.1, u5.1, u5.2.1, u5.2.2.1, u5.2.2.2.1, u5.2.2.2.2.1, u5.2.2.2.2.2.1, u5.2.2.2.2.2.2.1, u5.2.2.2.2.2.2.2.1, u5.2.2.2.2.2.2.2.2.1, u5.2.2.2.2.2.2.2.2.2.1, u5.2.2.2.2.2.2.2.2.2.2.1, u5.2.2.2.2.2.2.2.2.2.2.2.1, u5.2.2.2.2.2.2.2.2.2.2.2.2, cM_found))
  (br (x2 = (1 : Int32))
  (some (u5.2.2.2.2.2.1, u5.1, u5.2.1, u5.2.2.1, u5.2.2.2.1, u5.2.2.2.2.1, u5.2.2.2.2.2.1, u5.2.2.2.2.2.2.1, u5.2.2.2.2.2.2.2.1, u5.2.2.2.2.2.2.2.2.1, u5.2.2.2.2.2.2.2.2.2.1, u5.2.2.2.2.2.2.2.2.2.2.1, u5.2.2.2.2.2.2.2.2.2.2.2.1, u5.2.2.2.2.2.2.2.2.2.2.2.2, cM_found))
  (some (u5.2.2.2.2.2.2.1, u5.1, u5.2.1, u5.2.2.1, u5.2.2.2.1, u5.2.2.2.2.1, u5.2.2.2.2.2.1, u5.2.2.2.2.2.2.1, u5.2.2.2.2.2.2.2.1, u5.2.2.2.2.2.2.2.2.1, u5.2.2.2.2.2.2.2.2.2.1, u5.2.2.2.2.2.2.2.2.2.2.1, u5.2.2.2.2.2.2.2.2.2.2.2.1, u5.2.2.2.2.2.2.2.2.2.2.2.2, cM_found)))))
  (bd (f_X8_finds u3 cM_found) fun u10 =>
  some (u10.1, vM_leaked, vM_keptAll, vM_offAll, vM_fitting, vM_firstSet, vM_inAll, vM_inAny, cM_d, cM_e, cM_came, cM_got, cM_held, cM_off, u10.2)))
noncomputable def f_X8_truly_J105 (x1 : Int32) (x2 : Int32) (x3 : Int32) (y4 : Int32) (y5 : Int32) (vM_leaked : Int32) (vM_keptAll : Int32) (vM_offAll : Int32) (cM_d : Nat → Int32) (cM_found : Nat → Int32) (cM_came : Nat → Int32) (cM_got : Nat → Int32) (cM_held : Nat → Int32) (cM_off : Nat → Int32) : Option (Int32 × Int32 × Int32 × Int32 × (Nat → Int32) × (Nat → Int32) × (Nat → Int32) × (Nat → Int32) × (Nat → Int32) × (Nat → Int32)) :=
  br (0 ≤ y5)
  (some (y5, vM_leaked, vM_keptAll, vM_offAll, (upd cM_d (3 : Int32).toNatClampNeg y4), cM_found, cM_came, cM_got, cM_held, cM_off))
  (bd (f_X8_finds (3 : Int32) cM_found) fun u11 =>
  some (u11.1, vM_leaked, vM_keptAll, vM_offAll, (upd cM_d (3 : Int32).toNatClampNeg y4), u11.2, cM_came, cM_got, cM_held, cM_off))
noncomputable def f_X8_truly_L50_b (x1 : Int32) (x2 : Int32) (x3 : Int32) (rc50 : (Int32 × Int32 × Int32 × Int32 × Int32 × Int32 × (Nat → Int32) × (Nat → Int32) × (Nat → Int32) × (Nat → Int32) × (Nat → Int32) × (Nat → Int32)) → Option (Int32 × Int32 × Int32 × Int32 × (Nat → Int32) × (Nat → Int32) × (Nat → Int32) × (Nat → Int32) × (Nat → Int32) × (Nat → Int32))) (y4 : Int32) (y5 : Int32) (y6 : Int32) (vM_leaked : Int32) (vM_keptAll : Int32) (vM_offAll : Int32) (cM_d : Nat → Int32) (cM_found : Nat → Int32) (cM_came : Nat → Int32) (cM_got : Nat → Int32) (cM_held : Nat → Int32) (cM_off : Nat → Int32) : Option (Int32 × Int32 × Int32 × Int32 × (Nat → Int32) × (Nat → Int32) × (Nat → Int32) × (Nat → Int32) × (Nat → Int32) × (Nat → Int32)) :=
  br ((9999 : Int32) < y6)
  (f_X8_truly_J105 x1 x2 x3 y4 y5 vM_leaked vM_keptAll vM_offAll cM_d cM_found cM_came cM_got cM_held cM_off)
  (bd (f_X8_look vM_leaked vM_keptAll vM_offAll (upd cM_d (3 : Int32).toNatClampNeg y6) cM_came cM_got cM_held cM_off) fun u13 =>
  gd (vp_in x1 10) (br ((u13.2.2.2.2.1 x1.toNatClampNeg) = x2)
  (br (x3 = (1 : Int32))
  (rc50 (y4, y6, (y6 + 1), u13.1, u13.2.1, u13.2.2.1, (upd cM_d (3 : Int32).toNatClampNeg y6), cM_found, u13.2.2.2.1, u13.2.2.2.2.1, u13.2.2.2.2.2.1, u13.2.2.2.2.2.2))
  (br (0 ≤ y5)
  (rc50 (y4, y5, (y6 + 1), u13.1, u13.2.1, u13.2.2.1, (upd cM_d (3 : Int32).toNatClampNeg y6), cM_found, u13.2.2.2.1, u13.2.2.2.2.1, u13.2.2.2.2.2.1, u13.2.2.2.2.2.2))
  (rc50 (y4, y6, (y6 + 1), u13.1, u13.2.1, u13.2.2.1, (upd cM_d (3 : Int32).toNatClampNeg y6), cM_found, u13.2.2.2.1, u13.2.2.2.2.1, u13.2.2.2.2.2.1, u13.2.2.2.2.2.2))))
  (rc50 (y4, y5, (y6 + 1), u13.1, u13.2.1, u13.2.2.1, (upd cM_d (3 : Int32).toNatClampNeg y6), cM_found, u13.2.2.2.1, u13.2.2.2.2.1, u13.2.2.2.2.2.1, u13.2.2.2.2.2.2))))
noncomputable def f_X8_truly_L50 (x1 : Int32) (x2 : Int32) (x3 : Int32) (k : Nat) : (Int32 × Int32 × Int32 × Int32 × Int32 × Int32 × (Nat → Int32) × (Nat → Int32) × (Nat → Int32) × (Nat → Int32) × (Nat → Int32) × (Nat → Int32)) → Option (Int32 × Int32 × Int32 × Int32 × (Nat → Int32) × (Nat → Int32) × (Nat → Int32) × (Nat → Int32) × (Nat → Int32) × (Nat → Int32)) := lp (fun rc v => f_X8_truly_L50_b x1 x2 x3 rc v.1 v.2.1 v.2.2.1 v.2.2.2.1 v.2.2.2.2.1 v.2.2.2.2.2.1 v.2.2.2.2.2.2.1 v.2.2.2.2.2.2.2.1 v.2.2.2.2.2.2.2.2.1 v.2.2.2.2.2.2.2.2.2.1 v.2.2.2.2.2.2.2.2.2.2.1 v.2.2.2.2.2.2.2.2.2.2.2) k
theorem f_X8_truly_L50_s (x1 : Int32) (x2 : Int32) (x3 : Int32) (k : Nat) (y4 : Int32) (y5 : Int32) (y6 : Int32) (vM_leaked : Int32) (vM_keptAll : Int32) (vM_offAll : Int32) (cM_d : Nat → Int32) (cM_found : Nat → Int32) (cM_came : Nat → Int32) (cM_got : Nat → Int32) (cM_held : Nat → Int32) (cM_off : Nat → Int32) : f_X8_truly_L50 x1 x2 x3 (k + 1) (y4, y5, y6, vM_leaked, vM_keptAll, vM_offAll, cM_d, cM_found, cM_came, cM_got, cM_held, cM_off) = f_X8_truly_L50_b x1 x2 x3 (f_X8_truly_L50 x1 x2 x3 k) y4 y5 y6 vM_leaked vM_keptAll vM_offAll cM_d cM_found cM_came cM_got cM_held cM_off := rfl
theorem f_X8_truly_L50_0 (x1 : Int32) (x2 : Int32) (x3 : Int32) (v : Int32 × Int32 × Int32 × Int32 × Int32 × Int32 × (Nat → Int32) × (Nat → Int32) × (Nat → Int32) × (Nat → Int32) × (Nat → Int32) × (Nat → Int32)) : f_X8_truly_L50 x1 x2 x3 0 v = none := rfl
noncomputable def f_X8_truly (x1 : Int32) (x2 : Int32) (x3 : Int32) (vM_leaked : Int32) (vM_keptAll : Int32) (vM_offAll : Int32) (cM_d : Nat → Int32) (cM_found : Nat → Int32) (cM_came : Nat → Int32) (cM_got : Nat → Int32) (cM_held : Nat → Int32) (cM_off : Nat → Int32) : Option (Int32 × Int32 × Int32 × Int32 × (Nat → Int32) × (Nat → Int32) × (Nat → Int32) × (Nat → Int32) × (Nat → Int32) × (Nat → Int32)) :=
  bd (f_X8_isBasin x1 cM_d) fun u1 =>
  br (u1 = 0)
  (bd (f_X8_finds (0 : Int32) cM_found) fun u3 =>
  some (u3.1, vM_leaked, vM_keptAll, vM_offAll, cM_d, u3.2, cM_came, cM_got, cM_held, cM_off))
  (bd (f_X8_in x2.toInt64 (0 : Int64) (9999 : Int64)) fun u4 =>
  br (u4 = 0)
  (bd (f_X8_finds (0 : Int32) cM_found) fun u6 =>
  some (u6.1, vM_leaked, vM_keptAll, vM_offAll, cM_d, u6.2, cM_came, cM_got, cM_held, cM_off))
  (bd (f_X8_in x3.toInt64 (0 : Int64) (1 : Int64)) fun u7 =>
  br (u7 = 0)
  (bd (f_X8_finds (0 : Int32) cM_found) fun u18 =>
  some (u18.1, vM_leaked, vM_keptAll, vM_offAll, cM_d, u18.2, cM_came, cM_got, cM_held, cM_off))
  (nm (cM_d (3 : Int32).toNatClampNeg) fun z9 =>
  f_X8_truly_L50 x1 x2 x3 FU (z9, (-1 : Int32), (0 : Int32), vM_leaked, vM_keptAll, vM_offAll, cM_d, cM_found, cM_came, cM_got, cM_held, cM_off))))
noncomputable def f_X8_drawn (cM_d : Nat → Int32) : Option (Int32 × (Nat → Int32)) :=
  some ((((upd cM_d (2 : Int32).toNatClampNeg (((cM_d (2 : Int32).toNatClampNeg) * (1103515245 : Int32)) + (12345 : Int32))) (2 : Int32).toNatClampNeg).toUInt32 >>> ((8 : Int32).toUInt32 &&& Int32.toUInt32 31)).toInt32, (upd cM_d (2 : Int32).toNatClampNeg (((cM_d (2 : Int32).toNatClampNeg) * (1103515245 : Int32)) + (12345 : Int32))))
noncomputable def f_X8_weather_L36_b (x1 : Int32) (rc36 : (Int32 × Int32 × Int32 × Int32 × Int32 × (Nat → Int32) × (Nat → Int32) × (Nat → Int32) × (Nat → Int32) × (Nat → Int32) × (Nat → Int32)) → Option (Int32 × Int32 × Int32 × Int32 × (Nat → Int32) × (Nat → Int32) × (Nat → Int32) × (Nat → Int32) × (Nat → Int32) × (Nat → Int32))) (y2 : Int32) (y3 : Int32) (vM_leaked : Int32) (vM_keptAll : Int32) (vM_offAll : Int32) (cM_d : Nat → Int32) (cM_came : Nat → Int32) (cM_got : Nat → Int32) (cM_held : Nat → Int32) (cM_off : Nat → Int32) (cM_found : Nat → Int32) : Option (Int32 × Int32 × Int32 × Int32 × (Nat → Int32) × (Nat → Int32) × (Nat → Int32) × (Nat → Int32) × (Nat → Int32) × (Nat → Int32)) :=
  br (x1 ≤ y3)
  (some (y2, vM_leaked, vM_keptAll, vM_offAll, cM_d, cM_came, cM_got, cM_held, cM_off, cM_found))
  (bd (f_X8_drawn cM_d) fun u6 =>
  bd (f_X8_goOn (1 : Int32) vM_leaked vM_keptAll vM_offAll (upd u6.2 (3 : Int32).toNatClampNeg (u6.1 - u6.1 / (300 : Int32) * (300 : Int32))) cM_came cM_got cM_held cM_off) fun u7 =>
  nm (y2 + u7.1) fun z8 =>
  rc36 (z8, (y3 + 1), u7.2.1, u7.2.2.1, u7.2.2.2.1, u7.2.2.2.2.1, u7.2.2.2.2.2.1, u7.2.2.2.2.2.2.1, u7.2.2.2.2.2.2.2.1, u7.2.2.2.2.2.2.2.2, cM_found))
noncomputable def f_X8_weather_L36 (x1 : Int32) (k : Nat) : (Int32 × Int32 × Int32 × Int32 × Int32 × (Nat → Int32) × (Nat → Int32) × (Nat → Int32) × (Nat → Int32) × (Nat → Int32) × (Nat → Int32)) → Option (Int32 × Int32 × Int32 × Int32 × (Nat → Int32) × (Nat → Int32) × (Nat → Int32) × (Nat → Int32) × (Nat → Int32) × (Nat → Int32)) := lp (fun rc v => f_X8_weather_L36_b x1 rc v.1 v.2.1 v.2.2.1 v.2.2.2.1 v.2.2.2.2.1 v.2.2.2.2.2.1 v.2.2.2.2.2.2.1 v.2.2.2.2.2.2.2.1 v.2.2.2.2.2.2.2.2.1 v.2.2.2.2.2.2.2.2.2.1 v.2.2.2.2.2.2.2.2.2.2) k
theorem f_X8_weather_L36_s (x1 : Int32) (k : Nat) (y2 : Int32) (y3 : Int32) (vM_leaked : Int32) (vM_keptAll : Int32) (vM_offAll : Int32) (cM_d : Nat → Int32) (cM_came : Nat → Int32) (cM_got : Nat → Int32) (cM_held : Nat → Int32) (cM_off : Nat → Int32) (cM_found : Nat → Int32) : f_X8_weather_L36 x1 (k + 1) (y2, y3, vM_leaked, vM_keptAll, vM_offAll, cM_d, cM_came, cM_got, cM_held, cM_off, cM_found) = f_X8_weather_L36_b x1 (f_X8_weather_L36 x1 k) y2 y3 vM_leaked vM_keptAll vM_offAll cM_d cM_came cM_got cM_held cM_off cM_found := rfl
theorem f_X8_weather_L36_0 (x1 : Int32) (v : Int32 × Int32 × Int32 × Int32 × Int32 × (Nat → Int32) × (Nat → Int32) × (Nat → Int32) × (Nat → Int32) × (Nat → Int32) × (Nat → Int32)) : f_X8_weather_L36 x1 0 v = none := rfl
noncomputable def f_X8_weather (x1 : Int32) (vM_leaked : Int32) (vM_keptAll : Int32) (vM_offAll : Int32) (cM_d : Nat → Int32) (cM_came : Nat → Int32) (cM_got : Nat → Int32) (cM_held : Nat → Int32) (cM_off : Nat → Int32) (cM_found : Nat → Int32) : Option (Int32 × Int32 × Int32 × Int32 × (Nat → Int32) × (Nat → Int32) × (Nat → Int32) × (Nat → Int32) × (Nat → Int32) × (Nat → Int32)) :=
  bd (f_X8_in x1.toInt64 (1 : Int64) (12 : Int64)) fun u1 =>
  br (u1 = 0)
  (bd (f_X8_finds (0 : Int32) cM_found) fun u10 =>
  some (u10.1, vM_leaked, vM_keptAll, vM_offAll, cM_d, cM_came, cM_got, cM_held, cM_off, u10.2))
  (bd (f_X8_isLate x1 cM_d) fun u3 =>
  br (u3 = 0)
  (f_X8_weather_L36 x1 FU ((0 : Int32), (0 : Int32), vM_leaked, vM_keptAll, vM_offAll, cM_d, cM_came, cM_got, cM_held, cM_off, cM_found))
  (bd (f_X8_finds (4 : Int32) cM_found) fun u9 =>
  some (u9.1, vM_leaked, vM_keptAll, vM_offAll, cM_d, cM_came, cM_got, cM_held, cM_off, u9.2)))
noncomputable def f_X8_wear_L35_b (x1 : Int32) (rc35 : (Int32 × Int32 × Int32 × Int32 × (Nat → Int32) × (Nat → Int32) × (Nat → Int32) × (Nat → Int32) × (Nat → Int32) × (Nat → Int32)) → Option (Int32 × Int32 × Int32 × Int32 × (Nat → Int32) × (Nat → Int32) × (Nat → Int32) × (Nat → Int32) × (Nat → Int32) × (Nat → Int32))) (y2 : Int32) (vM_leaked : Int32) (vM_keptAll : Int32) (vM_offAll : Int32) (cM_d : Nat → Int32) (cM_came : Nat → Int32) (cM_got : Nat → Int32) (cM_held : Nat → Int32) (cM_off : Nat → Int32) (cM_found : Nat → Int32) : Option (Int32 × Int32 × Int32 × Int32 × (Nat → Int32) × (Nat → Int32) × (Nat → Int32) × (Nat → Int32) × (Nat → Int32) × (Nat → Int32)) :=
  br (x1 ≤ y2)
  (bd (f_X8_look vM_leaked vM_keptAll vM_offAll cM_d cM_came cM_got cM_held cM_off) fun u5 =>
  some (u5.2.1, u5.1, u5.2.1, u5.2.2.1, cM_d, u5.2.2.2.1, u5.2.2.2.2.1, u5.2.2.2.2.2.1, u5.2.2.2.2.2.2, cM_found))
  (bd (f_X8_drawn cM_d) fun u6 =>
  gd (¬ (u6.2 (0 : Int32).toNatClampNeg) = 0) (nm (u6.1 - u6.1 / (u6.2 (0 : Int32).toNatClampNeg) * (u6.2 (0 : Int32).toNatClampNeg)) fun z8 =>
  bd (f_X8_drawn u6.2) fun u9 =>
  bd (f_X8_sets z8 (0 : Int32) (u9.1 - u9.1 / (7 : Int32) * (7 : Int32)) u9.2) fun u10 =>
  rc35 ((y2 + 1), vM_leaked, vM_keptAll, vM_offAll, u10, cM_came, cM_got, cM_held, cM_off, cM_found)))
noncomputable def f_X8_wear_L35 (x1 : Int32) (k : Nat) : (Int32 × Int32 × Int32 × Int32 × (Nat → Int32) × (Nat → Int32) × (Nat → Int32) × (Nat → Int32) × (Nat → Int32) × (Nat → Int32)) → Option (Int32 × Int32 × Int32 × Int32 × (Nat → Int32) × (Nat → Int32) × (Nat → Int32) × (Nat → Int32) × (Nat → Int32) × (Nat → Int32)) := lp (fun rc v => f_X8_wear_L35_b x1 rc v.1 v.2.1 v.2.2.1 v.2.2.2.1 v.2.2.2.2.1 v.2.2.2.2.2.1 v.2.2.2.2.2.2.1 v.2.2.2.2.2.2.2.1 v.2.2.2.2.2.2.2.2.1 v.2.2.2.2.2.2.2.2.2) k
theorem f_X8_wear_L35_s (x1 : Int32) (k : Nat) (y2 : Int32) (vM_leaked : Int32) (vM_keptAll : Int32) (vM_offAll : Int32) (cM_d : Nat → Int32) (cM_came : Nat → Int32) (cM_got : Nat → Int32) (cM_held : Nat → Int32) (cM_off : Nat → Int32) (cM_found : Nat → Int32) : f_X8_wear_L35 x1 (k + 1) (y2, vM_leaked, vM_keptAll, vM_offAll, cM_d, cM_came, cM_got, cM_held, cM_off, cM_found) = f_X8_wear_L35_b x1 (f_X8_wear_L35 x1 k) y2 vM_leaked vM_keptAll vM_offAll cM_d cM_came cM_got cM_held cM_off cM_found := rfl
theorem f_X8_wear_L35_0 (x1 : Int32) (v : Int32 × Int32 × Int32 × Int32 × (Nat → Int32) × (Nat → Int32) × (Nat → Int32) × (Nat → Int32) × (Nat → Int32) × (Nat → Int32)) : f_X8_wear_L35 x1 0 v = none := rfl
noncomputable def f_X8_wear (x1 : Int32) (vM_leaked : Int32) (vM_keptAll : Int32) (vM_offAll : Int32) (cM_d : Nat → Int32) (cM_came : Nat → Int32) (cM_got : Nat → Int32) (cM_held : Nat → Int32) (cM_off : Nat → Int32) (cM_found : Nat → Int32) : Option (Int32 × Int32 × Int32 × Int32 × (Nat → Int32) × (Nat → Int32) × (Nat → Int32) × (Nat → Int32) × (Nat → Int32) × (Nat → Int32)) :=
  bd (f_X8_in x1.toInt64 (1 : Int64) (12 : Int64)) fun u1 =>
  br (u1 = 0)
  (bd (f_X8_finds (0 : Int32) cM_found) fun u12 =>
  some (u12.1, vM_leaked, vM_keptAll, vM_offAll, cM_d, cM_came, cM_got, cM_held, cM_off, u12.2))
  (br ((cM_d (0 : Int32).toNatClampNeg) = 0)
  (bd (f_X8_finds (4 : Int32) cM_found) fun u11 =>
  some (u11.1, vM_leaked, vM_keptAll, vM_offAll, cM_d, cM_came, cM_got, cM_held, cM_off, u11.2))
  (f_X8_wear_L35 x1 FU ((0 : Int32), vM_leaked, vM_keptAll, vM_offAll, cM_d, cM_came, cM_got, cM_held, cM_off, cM_found)))
noncomputable def f_X8_seed (x1 : Int32) (cM_d : Nat → Int32) : Option (Int32 × (Nat → Int32)) :=
  nm (cM_d (2 : Int32).toNatClampNeg) fun z1 =>
  some (z1, (upd cM_d (2 : Int32).toNatClampNeg x1))
noncomputable def f_X8_feed_L39_b (x1 : Int32) (x2 : Int32) (rc39 : (Int32 × Int32 × (Nat → Int32) × (Nat → Int32)) → Option (Int32 × Int32 × (Nat → Int32) × (Nat → Int32))) (y3 : Int32) (vM_taped : Int32) (cM_tape : Nat → Int32) (cM_found : Nat → Int32) : Option (Int32 × Int32 × (Nat → Int32) × (Nat → Int32)) :=
  br (y3 < 0)
  (some (vM_taped, vM_taped, cM_tape, cM_found))
  (gd (vp_in vM_taped 120) (rc39 ((y3 + (-1)), (vM_taped + (1 : Int32)), (upd cM_tape vM_taped.toNatClampNeg (vp_nar .byte ((x1 >>> (((8 : Int32) * y3) &&& 31)).toInt8.toInt32))), cM_found)))
noncomputable def f_X8_feed_L39 (x1 : Int32) (x2 : Int32) (k : Nat) : (Int32 × Int32 × (Nat → Int32) × (Nat → Int32)) → Option (Int32 × Int32 × (Nat → Int32) × (Nat → Int32)) := lp (fun rc v => f_X8_feed_L39_b x1 x2 rc v.1 v.2.1 v.2.2.1 v.2.2.2) k
theorem f_X8_feed_L39_s (x1 : Int32) (x2 : Int32) (k : Nat) (y3 : Int32) (vM_taped : Int32) (cM_tape : Nat → Int32) (cM_found : Nat → Int32) : f_X8_feed_L39 x1 x2 (k + 1) (y3, vM_taped, cM_tape, cM_found) = f_X8_feed_L39_b x1 x2 (f_X8_feed_L39 x1 x2 k) y3 vM_taped cM_tape cM_found := rfl
theorem f_X8_feed_L39_0 (x1 : Int32) (x2 : Int32) (v : Int32 × Int32 × (Nat → Int32) × (Nat → Int32)) : f_X8_feed_L39 x1 x2 0 v = none := rfl
noncomputable def f_X8_feed (x1 : Int32) (x2 : Int32) (vM_taped : Int32) (cM_tape : Nat → Int32) (cM_found : Nat → Int32) : Option (Int32 × Int32 × (Nat → Int32) × (Nat → Int32)) :=
  bd (f_X8_in x2.toInt64 (1 : Int64) (4 : Int64)) fun u1 =>
  br (u1 = 0)
  (bd (f_X8_finds (0 : Int32) cM_found) fun u8 =>
  some (u8.1, vM_taped, cM_tape, u8.2))
  (br ((vM_taped + x2) ≤ (120 : Int32))
  (nm (x2 - (1 : Int32)) fun z4 =>
  f_X8_feed_L39 x1 x2 FU (z4, vM_taped, cM_tape, cM_found))
  (bd (f_X8_finds (1 : Int32) cM_found) fun u7 =>
  some (u7.1, vM_taped, cM_tape, u7.2)))
noncomputable def f_X8_wipe (vM_taped : Int32) : Option (Int32 × Int32) :=
  some (vM_taped, (0 : Int32))
noncomputable def f_X8_letter (x0 : Int32) : Option (Int32) :=
  br (x0 < (97 : Int32))
  (some (0 : Int32))
  (br ((122 : Int32) < x0)
  (some (0 : Int32))
  (some ((x0 - (97 : Int32)) + (1 : Int32))))
noncomputable def f_X8_isDigit (x0 : Int32) : Option (Int32) :=
  br (x0 < (48 : Int32))
  (some (0 : Int32))
  (br ((57 : Int32) < x0)
  (some (0 : Int32))
  (some (1 : Int32)))
noncomputable def f_X8_byteAt (x1 : Int32) (vM_taped : Int32) (cM_tape : Nat → Int32) : Option (Int32) :=
  br (vM_taped ≤ x1)
  (some (-1 : Int32))
  (gd (vp_in x1 120) (some (cM_tape x1.toNatClampNeg)))
noncomputable def f_X8_next_J157 (vM_taped : Int32) (cM_tape : Nat → Int32) (rc103 : (Int32 × Int32 × Int32 × Int64) → Option (Int32 × Int32 × Int32 × Int64)) (t1 : Int64) (vM_at : Int32) (vM_sort : Int32) (vM_from : Int32) (vM_value : Int64) : Option (Int32 × Int32 × Int32 × Int64) :=
  rc103 ((vM_at + (1 : Int32)), vM_sort, vM_from, t1)
noncomputable def f_X8_next_L103_b (vM_taped : Int32) (cM_tape : Nat → Int32) (rc103 : (Int32 × Int32 × Int32 × Int64) → Option (Int32 × Int32 × Int32 × Int64)) (vM_at : Int32) (vM_sort : Int32) (vM_from : Int32) (vM_value : Int64) : Option (Int32 × Int32 × Int32 × Int64) :=
  bd (f_X8_byteAt vM_at vM_taped cM_tape) fun u14 =>
  bd (f_X8_letter u14) fun u15 =>
  br (u15 ≤ 0)
  (some (vM_at, vM_sort, vM_from, vM_value))
  (br ((lg_cmp vM_value (100000000000000000 : Int64)) ≤ 0)
  (bd (f_X8_byteAt vM_at vM_taped cM_tape) fun u18 =>
  bd (f_X8_letter u18) fun u19 =>
  f_X8_next_J157 vM_taped cM_tape rc103 ((vM_value * (27 : Int64)) + u19.toInt64) vM_at vM_sort vM_from vM_value)
  (f_X8_next_J157 vM_taped cM_tape rc103 vM_value vM_at vM_sort vM_from vM_value))
noncomputable def f_X8_next_L103 (vM_taped : Int32) (cM_tape : Nat → Int32) (k : Nat) : (Int32 × Int32 × Int32 × Int64) → Option (Int32 × Int32 × Int32 × Int64) := lp (fun rc v => f_X8_next_L103_b vM_taped cM_tape rc v.1 v.2.1 v.2.2.1 v.2.2.2) k
theorem f_X8_next_L103_s (vM_taped : Int32) (cM_tape : Nat → Int32) (k : Nat) (vM_at : Int32) (vM_sort : Int32) (vM_from : Int32) (vM_value : Int64) : f_X8_next_L103 vM_taped cM_tape (k + 1) (vM_at, vM_sort, vM_from, vM_value) = f_X8_next_L103_b vM_taped cM_tape (f_X8_next_L103 vM_taped cM_tape k) vM_at vM_sort vM_from vM_value := rfl
theorem f_X8_next_L103_0 (vM_taped : Int32) (cM_tape : Nat → Int32) (v : Int32 × Int32 × Int32 × Int64) : f_X8_next_L103 vM_taped cM_tape 0 v = none := rfl
noncomputable def f_X8_next_J240 (vM_taped : Int32) (cM_tape : Nat → Int32) (rc185 : (Int32 × Int32 × Int32 × Int64) → Option (Int32 × Int32 × Int32 × Int64)) (t1 : Int64) (vM_at : Int32) (vM_sort : Int32) (vM_from : Int32) (vM_value : Int64) : Option (Int32 × Int32 × Int32 × Int64) :=
  rc185 ((vM_at + (1 : Int32)), vM_sort, vM_from, t1)
noncomputable def f_X8_next_L185_b (vM_taped : Int32) (cM_tape : Nat → Int32) (rc185 : (Int32 × Int32 × Int32 × Int64) → Option (Int32 × Int32 × Int32 × Int64)) (vM_at : Int32) (vM_sort : Int32) (vM_from : Int32) (vM_value : Int64) : Option (Int32 × Int32 × Int32 × Int64) :=
  bd (f_X8_byteAt vM_at vM_taped cM_tape) fun u9 =>
  bd (f_X8_isDigit u9) fun u10 =>
  br (u10 = 0)
  (some (vM_at, vM_sort, vM_from, vM_value))
  (br ((lg_cmp vM_value (99999 : Int64)) ≤ 0)
  (bd (f_X8_byteAt vM_at vM_taped cM_tape) fun u13 =>
  f_X8_next_J240 vM_taped cM_tape rc185 (((vM_value * (10 : Int64)) + u13.toInt64) - (48 : Int64)) vM_at vM_sort vM_from vM_value)
  (f_X8_next_J240 vM_taped cM_tape rc185 vM_value vM_at vM_sort vM_from vM_value))
noncomputable def f_X8_next_L185 (vM_taped : Int32) (cM_tape : Nat → Int32) (k : Nat) : (Int32 × Int32 × Int32 × Int64) → Option (Int32 × Int32 × Int32 × Int64) := lp (fun rc v => f_X8_next_L185_b vM_taped cM_tape rc v.1 v.2.1 v.2.2.1 v.2.2.2) k
theorem f_X8_next_L185_s (vM_taped : Int32) (cM_tape : Nat → Int32) (k : Nat) (vM_at : Int32) (vM_sort : Int32) (vM_from : Int32) (vM_value : Int64) : f_X8_next_L185 vM_taped cM_tape (k + 1) (vM_at, vM_sort, vM_from, vM_value) = f_X8_next_L185_b vM_taped cM_tape (f_X8_next_L185 vM_taped cM_tape k) vM_at vM_sort vM_from vM_value := rfl
theorem f_X8_next_L185_0 (vM_taped : Int32) (cM_tape : Nat → Int32) (v : Int32 × Int32 × Int32 × Int64) : f_X8_next_L185 vM_taped cM_tape 0 v = none := rfl
noncomputable def f_X8_next_J26 (vM_taped : Int32) (cM_tape : Nat → Int32) (vM_at : Int32) (vM_sort : Int32) (vM_from : Int32) (vM_value : Int64) : Option (Int32 × Int32 × Int32 × Int64) :=
  bd (f_X8_byteAt vM_at vM_taped cM_tape) fun u2 =>
  br (vM_at = vM_taped)
  (some (vM_at, (0 : Int32), vM_at, (0 : Int64)))
  (br (u2 = (59 : Int32))
  (some ((vM_at + (1 : Int32)), (3 : Int32), vM_at, (0 : Int64)))
  (bd (f_X8_letter u2) fun u5 =>
  br (u5 ≤ 0)
  (bd (f_X8_isDigit u2) fun u7 =>
  br (u7 = 0)
  (some (vM_at, (4 : Int32), vM_at, (0 : Int64)))
  (f_X8_next_L185 vM_taped cM_tape FU (vM_at, (2 : Int32), vM_at, (0 : Int64))))
  (f_X8_next_L103 vM_taped cM_tape FU (vM_at, (1 : Int32), vM_at, (0 : Int64)))))
noncomputable def f_X8_next_L0_b (vM_taped : Int32) (cM_tape : Nat → Int32) (rc0 : (Int32 × Int32 × Int32 × Int64) → Option (Int32 × Int32 × Int32 × Int64)) (vM_at : Int32) (vM_sort : Int32) (vM_from : Int32) (vM_value : Int64) : Option (Int32 × Int32 × Int32 × Int64) :=
  bd (f_X8_byteAt vM_at vM_taped cM_tape) fun u1 =>
  br (u1 = (32 : Int32))
  (rc0 ((vM_at + (1 : Int32)), vM_sort, vM_from, vM_value))
  (f_X8_next_J26 vM_taped cM_tape vM_at vM_sort vM_from vM_value)
noncomputable def f_X8_next_L0 (vM_taped : Int32) (cM_tape : Nat → Int32) (k : Nat) : (Int32 × Int32 × Int32 × Int64) → Option (Int32 × Int32 × Int32 × Int64) := lp (fun rc v => f_X8_next_L0_b vM_taped cM_tape rc v.1 v.2.1 v.2.2.1 v.2.2.2) k
theorem f_X8_next_L0_s (vM_taped : Int32) (cM_tape : Nat → Int32) (k : Nat) (vM_at : Int32) (vM_sort : Int32) (vM_from : Int32) (vM_value : Int64) : f_X8_next_L0 vM_taped cM_tape (k + 1) (vM_at, vM_sort, vM_from, vM_value) = f_X8_next_L0_b vM_taped cM_tape (f_X8_next_L0 vM_taped cM_tape k) vM_at vM_sort vM_from vM_value := rfl
theorem f_X8_next_L0_0 (vM_taped : Int32) (cM_tape : Nat → Int32) (v : Int32 × Int32 × Int32 × Int64) : f_X8_next_L0 vM_taped cM_tape 0 v = none := rfl
noncomputable def f_X8_next (vM_taped : Int32) (vM_at : Int32) (vM_sort : Int32) (vM_from : Int32) (vM_value : Int64) (cM_tape : Nat → Int32) : Option (Int32 × Int32 × Int32 × Int64) :=
  f_X8_next_L0 vM_taped cM_tape FU (vM_at, vM_sort, vM_from, vM_value)
noncomputable def f_X8_wrongHere (vM_from : Int32) (vM_fault : Int32) : Option (Int32) :=
  br (0 ≤ vM_fault)
  (some vM_fault)
  (some vM_from)
noncomputable def f_X8_isWord (x1 : Int64) (vM_sort : Int32) (vM_value : Int64) : Option (Int32) :=
  br (vM_sort = (1 : Int32))
  (br ((lg_cmp vM_value x1) = 0)
  (some (1 : Int32))
  (some (0 : Int32)))
  (some (0 : Int32))
noncomputable def f_X8_kindHere (vM_sort : Int32) (vM_value : Int64) : Option (Int32) :=
  bd (f_X8_isWord (1096673 : Int64) vM_sort vM_value) fun u1 =>
  br (u1 = 0)
  (bd (f_X8_isWord (1282162423 : Int64) vM_sort vM_value) fun u3 =>
  br (u3 = 0)
  (bd (f_X8_isWord (4721545303 : Int64) vM_sort vM_value) fun u5 =>
  br (u5 = 0)
  (bd (f_X8_isWord (168748 : Int64) vM_sort vM_value) fun u7 =>
  br (u7 = 0)
  (bd (f_X8_isWord (8692006 : Int64) vM_sort vM_value) fun u9 =>
  br (u9 = 0)
  (bd (f_X8_isWord (58192564 : Int64) vM_sort vM_value) fun u11 =>
  br (u11 = 0)
  (bd (f_X8_isWord (2504979733 : Int64) vM_sort vM_value) fun u13 =>
  br (u13 = 0)
  (some (-1 : Int32))
  (some (6 : Int32)))
  (some (5 : Int32)))
  (some (4 : Int32)))
  (some (3 : Int32)))
  (some (2 : Int32)))
  (some (1 : Int32)))
  (some (0 : Int32))
noncomputable def f_X8_numberHere (x1 : Int32) (x2 : Int32) (vM_taped : Int32) (vM_at : Int32) (vM_sort : Int32) (vM_from : Int32) (vM_value : Int64) (vM_fault : Int32) (cM_tape : Nat → Int32) : Option (Int32 × Int32 × Int32 × Int32 × Int64 × Int32) :=
  br (vM_sort = (2 : Int32))
  (bd (f_X8_in vM_value x1.toInt64 x2.toInt64) fun u3 =>
  br (u3 = 0)
  (bd (f_X8_wrongHere vM_from vM_fault) fun u6 =>
  some (x1, vM_at, vM_sort, vM_from, vM_value, u6))
  (bd (f_X8_next vM_taped vM_at vM_sort vM_from vM_value cM_tape) fun u5 =>
  some (vM_value.toInt32, u5.1, u5.2.1, u5.2.2.1, u5.2.2.2, vM_fault)))
  (bd (f_X8_wrongHere vM_from vM_fault) fun u2 =>
  some (x1, vM_at, vM_sort, vM_from, vM_value, u2))
noncomputable def f_X8_basinHere_J96 (x1 : Int32) (vM_taped : Int32) (cM_tape : Nat → Int32) (y2 : Int32) (y3 : Int32) (vM_at : Int32) (vM_sort : Int32) (vM_from : Int32) (vM_value : Int64) (vM_fault : Int32) (cM_d : Nat → Int32) : Option (Int32 × Int32 × Int32 × Int64 × Int32 × (Nat → Int32)) :=
  br (0 ≤ vM_fault)
  (some (vM_at, vM_sort, vM_from, vM_value, vM_fault, cM_d))
  (bd (f_X8_comes x1 y2 y3 cM_d) fun u5 =>
  some (vM_at, vM_sort, vM_from, vM_value, vM_fault, u5.2))
noncomputable def f_X8_basinHere_J72 (x1 : Int32) (vM_taped : Int32) (cM_tape : Nat → Int32) (y2 : Int32) (vM_at : Int32) (vM_sort : Int32) (vM_from : Int32) (vM_value : Int64) (vM_fault : Int32) (cM_d : Nat → Int32) : Option (Int32 × Int32 × Int32 × Int64 × Int32 × (Nat → Int32)) :=
  bd (f_X8_isWord (101525 : Int64) vM_sort vM_value) fun u3 =>
  br (u3 = 0)
  (f_X8_basinHere_J96 x1 vM_taped cM_tape y2 (1 : Int32) vM_at vM_sort vM_from vM_value vM_fault cM_d)
  (bd (f_X8_next vM_taped vM_at vM_sort vM_from vM_value cM_tape) fun u7 =>
  bd (f_X8_numberHere (1 : Int32) (9 : Int32) vM_taped u7.1 u7.2.1 u7.2.2.1 u7.2.2.2 vM_fault cM_tape) fun u8 =>
  f_X8_basinHere_J96 x1 vM_taped cM_tape y2 u8.1 u8.2.1 u8.2.2.1 u8.2.2.2.1 u8.2.2.2.2.1 u8.2.2.2.2.2 cM_d)
noncomputable def f_X8_basinHere (x1 : Int32) (vM_taped : Int32) (vM_at : Int32) (vM_sort : Int32) (vM_from : Int32) (vM_value : Int64) (vM_fault : Int32) (cM_d : Nat → Int32) (cM_tape : Nat → Int32) : Option (Int32 × Int32 × Int32 × Int64 × Int32 × (Nat → Int32)) :=
  br ((cM_d (0 : Int32).toNatClampNeg) = (10 : Int32))
  (bd (f_X8_wrongHere vM_from vM_fault) fun u16 =>
  some (vM_at, vM_sort, vM_from, vM_value, u16, cM_d))
  (bd (f_X8_next vM_taped vM_at vM_sort vM_from vM_value cM_tape) fun u2 =>
  br ((cM_d (0 : Int32).toNatClampNeg) ≤ 0)
  (f_X8_basinHere_J72 x1 vM_taped cM_tape (-1 : Int32) u2.1 u2.2.1 u2.2.2.1 u2.2.2.2 vM_fault cM_d)
  (bd (f_X8_isWord (1170473 : Int64) u2.2.1 u2.2.2.2) fun u10 =>
  br (u10 = 0)
  (bd (f_X8_wrongHere u2.2.2.1 vM_fault) fun u15 =>
  some (u2.1, u2.2.1, u2.2.2.1, u2.2.2.2, u15, cM_d))
  (bd (f_X8_next vM_taped u2.1 u2.2.1 u2.2.2.1 u2.2.2.2 cM_tape) fun u12 =>
  bd (f_X8_numberHere (0 : Int32) ((cM_d (0 : Int32).toNatClampNeg) - (1 : Int32)) vM_taped u12.1 u12.2.1 u12.2.2.1 u12.2.2.2 vM_fault cM_tape) fun u13 =>
  br (u13.2.2.2.2.2 < 0)
  (f_X8_basinHere_J72 x1 vM_taped cM_tape u13.1 u13.2.1 u13.2.2.1 u13.2.2.2.1 u13.2.2.2.2.1 u13.2.2.2.2.2 cM_d)
  (some (u13.2.1, u13.2.2.1, u13.2.2.2.1, u13.2.2.2.2.1, u13.2.2.2.2.2, cM_d)))))
noncomputable def f_X8_item (vM_taped : Int32) (vM_at : Int32) (vM_sort : Int32) (vM_from : Int32) (vM_value : Int64) (vM_fault : Int32) (cM_tape : Nat → Int32) (cM_d : Nat → Int32) : Option (Int32 × Int32 × Int32 × Int64 × Int32 × (Nat → Int32)) :=
  bd (f_X8_kindHere vM_sort vM_value) fun u1 =>
  br (u1 < 0)
  (bd (f_X8_isWord (281493529 : Int64) vM_sort vM_value) fun u3 =>
  br (u3 = 0)
  (bd (f_X8_wrongHere vM_from vM_fault) fun u5 =>
  some (vM_at, vM_sort, vM_from, vM_value, u5, cM_d))
  (bd (f_X8_next vM_taped vM_at vM_sort vM_from vM_value cM_tape) fun u6 =>
  bd (f_X8_numberHere (0 : Int32) (99999 : Int32) vM_taped u6.1 u6.2.1 u6.2.2.1 u6.2.2.2 vM_fault cM_tape) fun u7 =>
  br (0 ≤ u7.2.2.2.2.2)
  (some (u7.2.1, u7.2.2.1, u7.2.2.2.1, u7.2.2.2.2.1, u7.2.2.2.2.2, (upd cM_d (3 : Int32).toNatClampNeg (cM_d (3 : Int32).toNatClampNeg))))
  (some (u7.2.1, u7.2.2.1, u7.2.2.2.1, u7.2.2.2.2.1, u7.2.2.2.2.2, (upd cM_d (3 : Int32).toNatClampNeg u7.1)))))
  (bd (f_X8_basinHere u1 vM_taped vM_at vM_sort vM_from vM_value vM_fault cM_d cM_tape) fun u9 =>
  some (u9.1, u9.2.1, u9.2.2.1, u9.2.2.2.1, u9.2.2.2.2.1, u9.2.2.2.2.2))
noncomputable def f_X8_items_J49 (vM_taped : Int32) (cM_tape : Nat → Int32) (y1 : Int32) (vM_at : Int32) (vM_sort : Int32) (vM_from : Int32) (vM_value : Int64) (vM_fault : Int32) (cM_d : Nat → Int32) : Option (Int32 × Int32 × Int32 × Int32 × Int64 × Int32 × (Nat → Int32)) :=
  br (0 ≤ vM_fault)
  (some (y1, vM_at, vM_sort, vM_from, vM_value, vM_fault, cM_d))
  (br (vM_sort = 0)
  (some (y1, vM_at, vM_sort, vM_from, vM_value, vM_fault, cM_d))
  (bd (f_X8_wrongHere vM_from vM_fault) fun u5 =>
  some (y1, vM_at, vM_sort, vM_from, vM_value, u5, cM_d)))
noncomputable def f_X8_items_L20_b (vM_taped : Int32) (cM_tape : Nat → Int32) (rc20 : (Int32 × Int32 × Int32 × Int32 × Int64 × Int32 × (Nat → Int32)) → Option (Int32 × Int32 × Int32 × Int32 × Int64 × Int32 × (Nat → Int32))) (y1 : Int32) (vM_at : Int32) (vM_sort : Int32) (vM_from : Int32) (vM_value : Int64) (vM_fault : Int32) (cM_d : Nat → Int32) : Option (Int32 × Int32 × Int32 × Int32 × Int64 × Int32 × (Nat → Int32)) :=
  br (0 ≤ vM_fault)
  (f_X8_items_J49 vM_taped cM_tape y1 vM_at vM_sort vM_from vM_value vM_fault cM_d)
  (br (vM_sort = (3 : Int32))
  (bd (f_X8_next vM_taped vM_at vM_sort vM_from vM_value cM_tape) fun u8 =>
  bd (f_X8_item vM_taped u8.1 u8.2.1 u8.2.2.1 u8.2.2.2 vM_fault cM_tape cM_d) fun u9 =>
  rc20 ((y1 + 1), u9.1, u9.2.1, u9.2.2.1, u9.2.2.2.1, u9.2.2.2.2.1, u9.2.2.2.2.2))
  (f_X8_items_J49 vM_taped cM_tape y1 vM_at vM_sort vM_from vM_value vM_fault cM_d))
noncomputable def f_X8_items_L20 (vM_taped : Int32) (cM_tape : Nat → Int32) (k : Nat) : (Int32 × Int32 × Int32 × Int32 × Int64 × Int32 × (Nat → Int32)) → Option (Int32 × Int32 × Int32 × Int32 × Int64 × Int32 × (Nat → Int32)) := lp (fun rc v => f_X8_items_L20_b vM_taped cM_tape rc v.1 v.2.1 v.2.2.1 v.2.2.2.1 v.2.2.2.2.1 v.2.2.2.2.2.1 v.2.2.2.2.2.2) k
theorem f_X8_items_L20_s (vM_taped : Int32) (cM_tape : Nat → Int32) (k : Nat) (y1 : Int32) (vM_at : Int32) (vM_sort : Int32) (vM_from : Int32) (vM_value : Int64) (vM_fault : Int32) (cM_d : Nat → Int32) : f_X8_items_L20 vM_taped cM_tape (k + 1) (y1, vM_at, vM_sort, vM_from, vM_value, vM_fault, cM_d) = f_X8_items_L20_b vM_taped cM_tape (f_X8_items_L20 vM_taped cM_tape k) y1 vM_at vM_sort vM_from vM_value vM_fault cM_d := rfl
theorem f_X8_items_L20_0 (vM_taped : Int32) (cM_tape : Nat → Int32) (v : Int32 × Int32 × Int32 × Int32 × Int64 × Int32 × (Nat → Int32)) : f_X8_items_L20 vM_taped cM_tape 0 v = none := rfl
noncomputable def f_X8_items (vM_taped : Int32) (vM_at : Int32) (vM_sort : Int32) (vM_from : Int32) (vM_value : Int64) (vM_fault : Int32) (cM_tape : Nat → Int32) (cM_d : Nat → Int32) : Option (Int32 × Int32 × Int32 × Int32 × Int64 × Int32 × (Nat → Int32)) :=
  bd (f_X8_next vM_taped (0 : Int32) vM_sort vM_from vM_value cM_tape) fun u1 =>
  bd (f_X8_item vM_taped u1.1 u1.2.1 u1.2.2.1 u1.2.2.2 (-1 : Int32) cM_tape cM_d) fun u2 =>
  f_X8_items_L20 vM_taped cM_tape FU ((1 : Int32), u2.1, u2.2.1, u2.2.2.1, u2.2.2.2.1, u2.2.2.2.2.1, u2.2.2.2.2.2)
noncomputable def f_X8_text (vM_taped : Int32) (vM_at : Int32) (vM_sort : Int32) (vM_from : Int32) (vM_value : Int64) (vM_fault : Int32) (cM_d : Nat → Int32) (cM_e : Nat → Int32) (cM_tape : Nat → Int32) : Option (Int32 × Int32 × Int32 × Int32 × Int32 × Int64 × Int32 × (Nat → Int32) × (Nat → Int32)) :=
  bd (f_X8_copies cM_d cM_e) fun u1 =>
  bd (f_X8_items vM_taped vM_at vM_sort vM_from vM_value vM_fault cM_tape cM_d) fun u2 =>
  br (u2.2.2.2.2.2.1 < 0)
  (some (u2.1, (0 : Int32), u2.2.1, u2.2.2.1, u2.2.2.2.1, u2.2.2.2.2.1, u2.2.2.2.2.2.1, u2.2.2.2.2.2.2, u1))
  (bd (f_X8_copies u1 u2.2.2.2.2.2.2) fun u4 =>
  some (((-1 : Int32) - u2.2.2.2.2.2.1), (0 : Int32), u2.2.1, u2.2.2.1, u2.2.2.2.1, u2.2.2.2.2.1, u2.2.2.2.2.2.1, u4, u1))
noncomputable def f_X8_hold (x1 : Int32) (x2 : Int32) (cM_found : Nat → Int32) (cM_d : Nat → Int32) : Option (Int32 × (Nat → Int32) × (Nat → Int32)) :=
  bd (f_X8_in x1.toInt64 (0 : Int64) (9 : Int64)) fun u1 =>
  br (u1 = 0)
  (bd (f_X8_finds (0 : Int32) cM_found) fun u3 =>
  some (u3.1, u3.2, cM_d))
  (bd (f_X8_in x2.toInt64 (-1 : Int64) (((cM_d (0 : Int32).toNatClampNeg) - (1 : Int32)).toInt64)) fun u4 =>
  br (u4 = 0)
  (bd (f_X8_finds (0 : Int32) cM_found) fun u7 =>
  some (u7.1, u7.2, cM_d))
  (gd (vp_in ((54 : Int32) + x1) 64) (some ((1 : Int32), cM_found, (upd cM_d ((54 : Int32) + x1).toNatClampNeg (x2 + (1 : Int32)))))))
noncomputable def f_X8_above (x0 : Int32) : Option (Int32) :=
  br (x0 = (3 : Int32))
  (some (1 : Int32))
  (br (x0 = (4 : Int32))
  (some (2 : Int32))
  (br (x0 = (6 : Int32))
  (some (5 : Int32))
  (some (0 : Int32))))
noncomputable def f_X8_as (x1 : Int32) (x2 : Int32) (cM_found : Nat → Int32) (cM_d : Nat → Int32) : Option (Int32 × (Nat → Int32)) :=
  bd (f_X8_in x1.toInt64 (0 : Int64) (9 : Int64)) fun u1 =>
  br (u1 = 0)
  (bd (f_X8_finds (0 : Int32) cM_found) fun u3 =>
  some (u3.1, u3.2))
  (bd (f_X8_in x2.toInt64 (0 : Int64) (6 : Int64)) fun u4 =>
  br (u4 = 0)
  (bd (f_X8_finds (0 : Int32) cM_found) fun u17 =>
  some (u17.1, u17.2))
  (gd (vp_in ((54 : Int32) + x1) 64) (br ((cM_d ((54 : Int32) + x1).toNatClampNeg) = 0)
  (bd (f_X8_finds (5 : Int32) cM_found) fun u16 =>
  some (u16.1, u16.2))
  (gd (vp_in ((54 : Int32) + x1) 64) (nm ((cM_d ((54 : Int32) + x1).toNatClampNeg) - (1 : Int32)) fun z9 =>
  bd (f_X8_its z9 (0 : Int32) cM_d) fun u10 =>
  br (x2 = 0)
  (some (z9, cM_found))
  (br (x2 = u10)
  (some (z9, cM_found))
  (bd (f_X8_above u10) fun u13 =>
  br (x2 = u13)
  (some (z9, cM_found))
  (bd (f_X8_finds (2 : Int32) cM_found) fun u15 =>
  some (u15.1, u15.2)))))))))
noncomputable def f_X8_sheet_L83_b (x1 : Int32) (x2 : Int32) (x3 : Int32) (rc83 : (Int32 × (Nat → Int32) × (Nat → Int32) × (Nat → Int32) × (Nat → Int32)) → Option (Int32 × (Nat → Int32) × (Nat → Int32) × (Nat → Int32) × (Nat → Int32))) (y4 : Int32) (cM_found : Nat → Int32) (cM_bitsOf : Nat → Int32) (cM_sizeOf : Nat → Int32) (cM_number : Nat → Int32) : Option (Int32 × (Nat → Int32) × (Nat → Int32) × (Nat → Int32) × (Nat → Int32)) :=
  br ((40 : Int32) ≤ y4)
  (gd (vp_in x1 4) (some ((cM_sizeOf x1.toNatClampNeg), cM_found, cM_bitsOf, cM_sizeOf, cM_number)))
  (gd (vp_in (((40 : Int32) * x1) + y4) 160) (rc83 ((y4 + 1), cM_found, cM_bitsOf, cM_sizeOf, (upd cM_number (((40 : Int32) * x1) + y4).toNatClampNeg (0 : Int32)))))
noncomputable def f_X8_sheet_L83 (x1 : Int32) (x2 : Int32) (x3 : Int32) (k : Nat) : (Int32 × (Nat → Int32) × (Nat → Int32) × (Nat → Int32) × (Nat → Int32)) → Option (Int32 × (Nat → Int32) × (Nat → Int32) × (Nat → Int32) × (Nat → Int32)) := lp (fun rc v => f_X8_sheet_L83_b x1 x2 x3 rc v.1 v.2.1 v.2.2.1 v.2.2.2.1 v.2.2.2.2) k
theorem f_X8_sheet_L83_s (x1 : Int32) (x2 : Int32) (x3 : Int32) (k : Nat) (y4 : Int32) (cM_found : Nat → Int32) (cM_bitsOf : Nat → Int32) (cM_sizeOf : Nat → Int32) (cM_number : Nat → Int32) : f_X8_sheet_L83 x1 x2 x3 (k + 1) (y4, cM_found, cM_bitsOf, cM_sizeOf, cM_number) = f_X8_sheet_L83_b x1 x2 x3 (f_X8_sheet_L83 x1 x2 x3 k) y4 cM_found cM_bitsOf cM_sizeOf cM_number := rfl
theorem f_X8_sheet_L83_0 (x1 : Int32) (x2 : Int32) (x3 : Int32) (v : Int32 × (Nat → Int32) × (Nat → Int32) × (Nat → Int32) × (Nat → Int32)) : f_X8_sheet_L83 x1 x2 x3 0 v = none := rfl
noncomputable def f_X8_sheet_J35 (x1 : Int32) (x2 : Int32) (x3 : Int32) (cM_found : Nat → Int32) (cM_bitsOf : Nat → Int32) (cM_sizeOf : Nat → Int32) (cM_number : Nat → Int32) : Option (Int32 × (Nat → Int32) × (Nat → Int32) × (Nat → Int32) × (Nat → Int32)) :=
  br (0 ≤ x3)
  (br (x3 ≤ (40 : Int32))
  (gd (vp_in x1 4) (br (x2 = 0)
  (gd (vp_in x1 4) (f_X8_sheet_L83 x1 x2 x3 FU ((0 : Int32), cM_found, (upd cM_bitsOf x1.toNatClampNeg x2), (upd cM_sizeOf x1.toNatClampNeg (0 : Int32)), cM_number)))
  (gd (vp_in x1 4) (f_X8_sheet_L83 x1 x2 x3 FU ((0 : Int32), cM_found, (upd cM_bitsOf x1.toNatClampNeg x2), (upd cM_sizeOf x1.toNatClampNeg x3), cM_number)))))
  (bd (f_X8_finds (0 : Int32) cM_found) fun u16 =>
  some (u16.1, u16.2, cM_bitsOf, cM_sizeOf, cM_number)))
  (bd (f_X8_finds (6 : Int32) cM_found) fun u17 =>
  some (u17.1, u17.2, cM_bitsOf, cM_sizeOf, cM_number))
noncomputable def f_X8_sheet (x1 : Int32) (x2 : Int32) (x3 : Int32) (cM_found : Nat → Int32) (cM_bitsOf : Nat → Int32) (cM_sizeOf : Nat → Int32) (cM_number : Nat → Int32) : Option (Int32 × (Nat → Int32) × (Nat → Int32) × (Nat → Int32) × (Nat → Int32)) :=
  bd (f_X8_isSheet x1) fun u1 =>
  br (u1 = 0)
  (bd (f_X8_finds (0 : Int32) cM_found) fun u3 =>
  some (u3.1, u3.2, cM_bitsOf, cM_sizeOf, cM_number))
  (br (x2 = 0)
  (f_X8_sheet_J35 x1 x2 x3 cM_found cM_bitsOf cM_sizeOf cM_number)
  (br (x2 = (8 : Int32))
  (f_X8_sheet_J35 x1 x2 x3 cM_found cM_bitsOf cM_sizeOf cM_number)
  (br (x2 = (16 : Int32))
  (f_X8_sheet_J35 x1 x2 x3 cM_found cM_bitsOf cM_sizeOf cM_number)
  (br (x2 = (32 : Int32))
  (f_X8_sheet_J35 x1 x2 x3 cM_found cM_bitsOf cM_sizeOf cM_number)
  (bd (f_X8_finds (0 : Int32) cM_found) fun u22 =>
  some (u22.1, u22.2, cM_bitsOf, cM_sizeOf, cM_number))))))
noncomputable def f_X8_write_J36 (x1 : Int32) (x2 : Int32) (x3 : Int32) (cM_bitsOf : Nat → Int32) (cM_sizeOf : Nat → Int32) (t0 : Int32) (cM_number : Nat → Int32) (cM_found : Nat → Int32) : Option (Int32 × (Nat → Int32) × (Nat → Int32)) :=
  br (t0 < 0)
  (gd (vp_in x1 4) (br ((cM_bitsOf x1.toNatClampNeg) = (8 : Int32))
  (gd (vp_in (((40 : Int32) * x1) + x2) 160) (some ((1 : Int32), (upd cM_number (((40 : Int32) * x1) + x2).toNatClampNeg x3.toInt8.toInt32), cM_found)))
  (gd (vp_in x1 4) (br ((cM_bitsOf x1.toNatClampNeg) = (16 : Int32))
  (gd (vp_in (((40 : Int32) * x1) + x2) 160) (some ((1 : Int32), (upd cM_number (((40 : Int32) * x1) + x2).toNatClampNeg x3.toInt16.toInt32), cM_found)))
  (gd (vp_in (((40 : Int32) * x1) + x2) 160) (some ((1 : Int32), (upd cM_number (((40 : Int32) * x1) + x2).toNatClampNeg x3), cM_found)))))))
  (bd (f_X8_finds t0 cM_found) fun u10 =>
  some (u10.1, cM_number, u10.2))
noncomputable def f_X8_write (x1 : Int32) (x2 : Int32) (x3 : Int32) (cM_bitsOf : Nat → Int32) (cM_sizeOf : Nat → Int32) (cM_number : Nat → Int32) (cM_found : Nat → Int32) : Option (Int32 × (Nat → Int32) × (Nat → Int32)) :=
  bd (f_X8_whyNone x1 cM_bitsOf) fun u1 =>
  br (0 ≤ u1)
  (f_X8_write_J36 x1 x2 x3 cM_bitsOf cM_sizeOf u1 cM_number cM_found)
  (gd (vp_in x1 4) (bd (f_X8_in x2.toInt64 (0 : Int64) (((cM_sizeOf x1.toNatClampNeg) - (1 : Int32)).toInt64)) fun u13 =>
  br (u13 = 0)
  (f_X8_write_J36 x1 x2 x3 cM_bitsOf cM_sizeOf (0 : Int32) cM_number cM_found)
  (f_X8_write_J36 x1 x2 x3 cM_bitsOf cM_sizeOf u1 cM_number cM_found)))
noncomputable def f_X8_copy_L160_b (x1 : Int32) (x2 : Int32) (x3 : Int32) (x4 : Int32) (x5 : Int32) (cM_bitsOf : Nat → Int32) (cM_sizeOf : Nat → Int32) (rc160 : (Int32 × (Nat → Int32) × (Nat → Int32) × (Nat → Int32)) → Option (Int32 × (Nat → Int32) × (Nat → Int32) × (Nat → Int32))) (y6 : Int32) (cM_found : Nat → Int32) (cM_passing : Nat → Int32) (cM_number : Nat → Int32) : Option (Int32 × (Nat → Int32) × (Nat → Int32) × (Nat → Int32)) :=
  br (x5 ≤ y6)
  (some (x5, cM_found, cM_passing, cM_number))
  (gd (vp_in y6 40) (gd (vp_in ((((40 : Int32) * x3) + x4) + y6) 160) (rc160 ((y6 + 1), cM_found, cM_passing, (upd cM_number ((((40 : Int32) * x3) + x4) + y6).toNatClampNeg (cM_passing y6.toNatClampNeg))))))
noncomputable def f_X8_copy_L160 (x1 : Int32) (x2 : Int32) (x3 : Int32) (x4 : Int32) (x5 : Int32) (cM_bitsOf : Nat → Int32) (cM_sizeOf : Nat → Int32) (k : Nat) : (Int32 × (Nat → Int32) × (Nat → Int32) × (Nat → Int32)) → Option (Int32 × (Nat → Int32) × (Nat → Int32) × (Nat → Int32)) := lp (fun rc v => f_X8_copy_L160_b x1 x2 x3 x4 x5 cM_bitsOf cM_sizeOf rc v.1 v.2.1 v.2.2.1 v.2.2.2) k
theorem f_X8_copy_L160_s (x1 : Int32) (x2 : Int32) (x3 : Int32) (x4 : Int32) (x5 : Int32) (cM_bitsOf : Nat → Int32) (cM_sizeOf : Nat → Int32) (k : Nat) (y6 : Int32) (cM_found : Nat → Int32) (cM_passing : Nat → Int32) (cM_number : Nat → Int32) : f_X8_copy_L160 x1 x2 x3 x4 x5 cM_bitsOf cM_sizeOf (k + 1) (y6, cM_found, cM_passing, cM_number) = f_X8_copy_L160_b x1 x2 x3 x4 x5 cM_bitsOf cM_sizeOf (f_X8_copy_L160 x1 x2 x3 x4 x5 cM_bitsOf cM_sizeOf k) y6 cM_found cM_passing cM_number := rfl
theorem f_X8_copy_L160_0 (x1 : Int32) (x2 : Int32) (x3 : Int32) (x4 : Int32) (x5 : Int32) (cM_bitsOf : Nat → Int32) (cM_sizeOf : Nat → Int32) (v : Int32 × (Nat → Int32) × (Nat → Int32) × (Nat → Int32)) : f_X8_copy_L160 x1 x2 x3 x4 x5 cM_bitsOf cM_sizeOf 0 v = none := rfl
noncomputable def f_X8_copy_L123_b (x1 : Int32) (x2 : Int32) (x3 : Int32) (x4 : Int32) (x5 : Int32) (cM_bitsOf : Nat → Int32) (cM_sizeOf : Nat → Int32) (rc123 : (Int32 × (Nat → Int32) × (Nat → Int32) × (Nat → Int32)) → Option (Int32 × (Nat → Int32) × (Nat → Int32) × (Nat → Int32))) (y6 : Int32) (cM_found : Nat → Int32) (cM_passing : Nat → Int32) (cM_number : Nat → Int32) : Option (Int32 × (Nat → Int32) × (Nat → Int32) × (Nat → Int32)) :=
  br (x5 ≤ y6)
  (f_X8_copy_L160 x1 x2 x3 x4 x5 cM_bitsOf cM_sizeOf FU ((0 : Int32), cM_found, cM_passing, cM_number))
  (gd (vp_in ((((40 : Int32) * x1) + x2) + y6) 160) (gd (vp_in y6 40) (rc123 ((y6 + 1), cM_found, (upd cM_passing y6.toNatClampNeg (cM_number ((((40 : Int32) * x1) + x2) + y6).toNatClampNeg)), cM_number))))
noncomputable def f_X8_copy_L123 (x1 : Int32) (x2 : Int32) (x3 : Int32) (x4 : Int32) (x5 : Int32) (cM_bitsOf : Nat → Int32) (cM_sizeOf : Nat → Int32) (k : Nat) : (Int32 × (Nat → Int32) × (Nat → Int32) × (Nat → Int32)) → Option (Int32 × (Nat → Int32) × (Nat → Int32) × (Nat → Int32)) := lp (fun rc v => f_X8_copy_L123_b x1 x2 x3 x4 x5 cM_bitsOf cM_sizeOf rc v.1 v.2.1 v.2.2.1 v.2.2.2) k
theorem f_X8_copy_L123_s (x1 : Int32) (x2 : Int32) (x3 : Int32) (x4 : Int32) (x5 : Int32) (cM_bitsOf : Nat → Int32) (cM_sizeOf : Nat → Int32) (k : Nat) (y6 : Int32) (cM_found : Nat → Int32) (cM_passing : Nat → Int32) (cM_number : Nat → Int32) : f_X8_copy_L123 x1 x2 x3 x4 x5 cM_bitsOf cM_sizeOf (k + 1) (y6, cM_found, cM_passing, cM_number) = f_X8_copy_L123_b x1 x2 x3 x4 x5 cM_bitsOf cM_sizeOf (f_X8_copy_L123 x1 x2 x3 x4 x5 cM_bitsOf cM_sizeOf k) y6 cM_found cM_passing cM_number := rfl
theorem f_X8_copy_L123_0 (x1 : Int32) (x2 : Int32) (x3 : Int32) (x4 : Int32) (x5 : Int32) (cM_bitsOf : Nat → Int32) (cM_sizeOf : Nat → Int32) (v : Int32 × (Nat → Int32) × (Nat → Int32) × (Nat → Int32)) : f_X8_copy_L123 x1 x2 x3 x4 x5 cM_bitsOf cM_sizeOf 0 v = none := rfl
noncomputable def f_X8_copy (x1 : Int32) (x2 : Int32) (x3 : Int32) (x4 : Int32) (x5 : Int32) (cM_found : Nat → Int32) (cM_bitsOf : Nat → Int32) (cM_sizeOf : Nat → Int32) (cM_passing : Nat → Int32) (cM_number : Nat → Int32) : Option (Int32 × (Nat → Int32) × (Nat → Int32) × (Nat → Int32)) :=
  bd (f_X8_isSheet x1) fun u1 =>
  br (u1 = 0)
  (bd (f_X8_finds (0 : Int32) cM_found) fun u3 =>
  some (u3.1, u3.2, cM_passing, cM_number))
  (bd (f_X8_isSheet x3) fun u4 =>
  br (u4 = 0)
  (bd (f_X8_finds (0 : Int32) cM_found) fun u34 =>
  some (u34.1, u34.2, cM_passing, cM_number))
  (gd (vp_in x1 4) (br ((cM_bitsOf x1.toNatClampNeg) = 0)
  (bd (f_X8_finds (5 : Int32) cM_found) fun u8 =>
  some (u8.1, u8.2, cM_passing, cM_number))
  (gd (vp_in x3 4) (br ((cM_bitsOf x3.toNatClampNeg) = 0)
  (bd (f_X8_finds (5 : Int32) cM_found) fun u33 =>
  some (u33.1, u33.2, cM_passing, cM_number))
  (gd (vp_in x1 4) (gd (vp_in x3 4) (br ((cM_bitsOf x1.toNatClampNeg) = (cM_bitsOf x3.toNatClampNeg))
  (br (x2 < 0)
  (bd (f_X8_finds (0 : Int32) cM_found) fun u15 =>
  some (u15.1, u15.2, cM_passing, cM_number))
  (br (x4 < 0)
  (bd (f_X8_finds (0 : Int32) cM_found) fun u17 =>
  some (u17.1, u17.2, cM_passing, cM_number))
  (br (x5 < 0)
  (bd (f_X8_finds (0 : Int32) cM_found) fun u19 =>
  some (u19.1, u19.2, cM_passing, cM_number))
  (gd (vp_in x1 4) (br (0 < (lg_cmp (x2.toInt64 + x5.toInt64) ((cM_sizeOf x1.toNatClampNeg).toInt64)))
  (bd (f_X8_finds (0 : Int32) cM_found) fun u22 =>
  some (u22.1, u22.2, cM_passing, cM_number))
  (gd (vp_in x3 4) (br ((lg_cmp (x4.toInt64 + x5.toInt64) ((cM_sizeOf x3.toNatClampNeg).toInt64)) ≤ 0)
  (f_X8_copy_L123 x1 x2 x3 x4 x5 cM_bitsOf cM_sizeOf FU ((0 : Int32), cM_found, cM_passing, cM_number))
  (bd (f_X8_finds (0 : Int32) cM_found) fun u31 =>
  some (u31.1, u31.2, cM_passing, cM_number)))))))))
  (bd (f_X8_finds (2 : Int32) cM_found) fun u32 =>
  some (u32.1, u32.2, cM_passing, cM_number))))))))))
noncomputable def f_X8_load_L18_b (x1 : Int32) (cM_bitsOf : Nat → Int32) (cM_sizeOf : Nat → Int32) (cM_number : Nat → Int32) (rc18 : (Int32 × (Nat → Int32) × (Nat → Int32)) → Option (Int32 × (Nat → Int32) × (Nat → Int32))) (y3 : Int32) (cM_d : Nat → Int32) (cM_found : Nat → Int32) : Option (Int32 × (Nat → Int32) × (Nat → Int32)) :=
  gd (vp_in x1 4) (br ((cM_sizeOf x1.toNatClampNeg) ≤ y3)
  (some (y3, cM_d, cM_found))
  (br ((cM_d (0 : Int32).toNatClampNeg) ≤ y3)
  (some (y3, cM_d, cM_found))
  (gd (vp_in (((40 : Int32) * x1) + y3) 160) (bd (f_X8_in ((cM_number (((40 : Int32) * x1) + y3).toNatClampNeg).toInt64) (1 : Int64) (9 : Int64)) fun u7 =>
  br (u7 = 0)
  (some (y3, cM_d, cM_found))
  (gd (vp_in (((40 : Int32) * x1) + y3) 160) (bd (f_X8_sets y3 (2 : Int32) (cM_number (((40 : Int32) * x1) + y3).toNatClampNeg) cM_d) fun u10 =>
  rc18 ((y3 + 1), u10, cM_found)))))))
noncomputable def f_X8_load_L18 (x1 : Int32) (cM_bitsOf : Nat → Int32) (cM_sizeOf : Nat → Int32) (cM_number : Nat → Int32) (k : Nat) : (Int32 × (Nat → Int32) × (Nat → Int32)) → Option (Int32 × (Nat → Int32) × (Nat → Int32)) := lp (fun rc v => f_X8_load_L18_b x1 cM_bitsOf cM_sizeOf cM_number rc v.1 v.2.1 v.2.2) k
theorem f_X8_load_L18_s (x1 : Int32) (cM_bitsOf : Nat → Int32) (cM_sizeOf : Nat → Int32) (cM_number : Nat → Int32) (k : Nat) (y3 : Int32) (cM_d : Nat → Int32) (cM_found : Nat → Int32) : f_X8_load_L18 x1 cM_bitsOf cM_sizeOf cM_number (k + 1) (y3, cM_d, cM_found) = f_X8_load_L18_b x1 cM_bitsOf cM_sizeOf cM_number (f_X8_load_L18 x1 cM_bitsOf cM_sizeOf cM_number k) y3 cM_d cM_found := rfl
theorem f_X8_load_L18_0 (x1 : Int32) (cM_bitsOf : Nat → Int32) (cM_sizeOf : Nat → Int32) (cM_number : Nat → Int32) (v : Int32 × (Nat → Int32) × (Nat → Int32)) : f_X8_load_L18 x1 cM_bitsOf cM_sizeOf cM_number 0 v = none := rfl
noncomputable def f_X8_load (x1 : Int32) (cM_bitsOf : Nat → Int32) (cM_sizeOf : Nat → Int32) (cM_d : Nat → Int32) (cM_number : Nat → Int32) (cM_found : Nat → Int32) : Option (Int32 × (Nat → Int32) × (Nat → Int32)) :=
  bd (f_X8_whyNone x1 cM_bitsOf) fun u1 =>
  br (u1 < 0)
  (f_X8_load_L18 x1 cM_bitsOf cM_sizeOf cM_number FU ((0 : Int32), cM_d, cM_found))
  (bd (f_X8_finds u1 cM_found) fun u11 =>
  some (u11.1, cM_d, u11.2))
noncomputable def f_X8_judge_J125 (x1 : Int32) (x2 : Int32) (cM_bitsOf : Nat → Int32) (cM_sizeOf : Nat → Int32) (cM_number : Nat → Int32) (y4 : Int32) (vM_leaked : Int32) (vM_keptAll : Int32) (vM_offAll : Int32) (cM_d : Nat → Int32) (cM_f : Nat → Int32) (cM_came : Nat → Int32) (cM_got : Nat → Int32) (cM_held : Nat → Int32) (cM_off : Nat → Int32) (cM_found : Nat → Int32) : Option (Int32 × Int32 × Int32 × Int32 × (Nat → Int32) × (Nat → Int32) × (Nat → Int32) × (Nat → Int32) × (Nat → Int32) × (Nat → Int32) × (Nat → Int32)) :=
  bd (f_X8_copies cM_f cM_d) fun u5 =>
  some (y4, vM_leaked, vM_keptAll, vM_offAll, u5, cM_f, cM_came, cM_got, cM_held, cM_off, cM_found)
noncomputable def f_X8_judge_L68_b (x1 : Int32) (x2 : Int32) (cM_bitsOf : Nat → Int32) (cM_sizeOf : Nat → Int32) (cM_number : Nat → Int32) (rc68 : (Int32 × Int32 × Int32 × Int32 × Int32 × (Nat → Int32) × (Nat → Int32) × (Nat → Int32) × (Nat → Int32) × (Nat → Int32) × (Nat → Int32) × (Nat → Int32)) → Option (Int32 × Int32 × Int32 × Int32 × (Nat → Int32) × (Nat → Int32) × (Nat → Int32) × (Nat → Int32) × (Nat → Int32) × (Nat → Int32) × (Nat → Int32))) (y4 : Int32) (y5 : Int32) (vM_leaked : Int32) (vM_keptAll : Int32) (vM_offAll : Int32) (cM_d : Nat → Int32) (cM_f : Nat → Int32) (cM_came : Nat → Int32) (cM_got : Nat → Int32) (cM_held : Nat → Int32) (cM_off : Nat → Int32) (cM_found : Nat → Int32) : Option (Int32 × Int32 × Int32 × Int32 × (Nat → Int32) × (Nat → Int32) × (Nat → Int32) × (Nat → Int32) × (Nat → Int32) × (Nat → Int32) × (Nat → Int32)) :=
  gd (vp_in x1 4) (br ((cM_sizeOf x1.toNatClampNeg) ≤ y5)
  (f_X8_judge_J125 x1 x2 cM_bitsOf cM_sizeOf cM_number y4 vM_leaked vM_keptAll vM_offAll cM_d cM_f cM_came cM_got cM_held cM_off cM_found)
  (br (y4 = 0)
  (bd (f_X8_anHour vM_leaked vM_keptAll vM_offAll cM_d cM_came cM_got cM_held cM_off) fun u8 =>
  gd (vp_in x2 10) (gd (vp_in (((40 : Int32) * x1) + y5) 160) (br ((u8.2.2.2.2.2.1 x2.toNatClampNeg) = (cM_number (((40 : Int32) * x1) + y5).toNatClampNeg))
  (rc68 ((0 : Int32), (y5 + 1), u8.1, u8.2.1, u8.2.2.1, u8.2.2.2.1, cM_f, u8.2.2.2.2.1, u8.2.2.2.2.2.1, u8.2.2.2.2.2.2.1, u8.2.2.2.2.2.2.2, cM_found))
  (nm ((1 : Int32) + y5) fun z12 =>
  rc68 (z12, (y5 + 1), u8.1, u8.2.1, u8.2.2.1, u8.2.2.2.1, cM_f, u8.2.2.2.2.1, u8.2.2.2.2.2.1, u8.2.2.2.2.2.2.1, u8.2.2.2.2.2.2.2, cM_found)))))
  (f_X8_judge_J125 x1 x2 cM_bitsOf cM_sizeOf cM_number y4 vM_leaked vM_keptAll vM_offAll cM_d cM_f cM_came cM_got cM_held cM_off cM_found)))
noncomputable def f_X8_judge_L68 (x1 : Int32) (x2 : Int32) (cM_bitsOf : Nat → Int32) (cM_sizeOf : Nat → Int32) (cM_number : Nat → Int32) (k : Nat) : (Int32 × Int32 × Int32 × Int32 × Int32 × (Nat → Int32) × (Nat → Int32) × (Nat → Int32) × (Nat → Int32) × (Nat → Int32) × (Nat → Int32) × (Nat → Int32)) → Option (Int32 × Int32 × Int32 × Int32 × (Nat → Int32) × (Nat → Int32) × (Nat → Int32) × (Nat → Int32) × (Nat → Int32) × (Nat → Int32) × (Nat → Int32)) := lp (fun rc v => f_X8_judge_L68_b x1 x2 cM_bitsOf cM_sizeOf cM_number rc v.1 v.2.1 v.2.2.1 v.2.2.2.1 v.2.2.2.2.1 v.2.2.2.2.2.1 v.2.2.2.2.2.2.1 v.2.2.2.2.2.2.2.1 v.2.2.2.2.2.2.2.2.1 v.2.2.2.2.2.2.2.2.2.1 v.2.2.2.2.2.2.2.2.2.2.1 v.2.2.2.2.2.2.2.2.2.2.2) k
theorem f_X8_judge_L68_s (x1 : Int32) (x2 : Int32) (cM_bitsOf : Nat → Int32) (cM_sizeOf : Nat → Int32) (cM_number : Nat → Int32) (k : Nat) (y4 : Int32) (y5 : Int32) (vM_leaked : Int32) (vM_keptAll : Int32) (vM_offAll : Int32) (cM_d : Nat → Int32) (cM_f : Nat → Int32) (cM_came : Nat → Int32) (cM_got : Nat → Int32) (cM_held : Nat → Int32) (cM_off : Nat → Int32) (cM_found : Nat → Int32) : f_X8_judge_L68 x1 x2 cM_bitsOf cM_sizeOf cM_number (k + 1) (y4, y5, vM_leaked, vM_keptAll, vM_offAll, cM_d, cM_f, cM_came, cM_got, cM_held, cM_off, cM_found) = f_X8_judge_L68_b x1 x2 cM_bitsOf cM_sizeOf cM_number (f_X8_judge_L68 x1 x2 cM_bitsOf cM_sizeOf cM_number k) y4 y5 vM_leaked vM_keptAll vM_offAll cM_d cM_f cM_came cM_got cM_held cM_off cM_found := rfl
theorem f_X8_judge_L68_0 (x1 : Int32) (x2 : Int32) (cM_bitsOf : Nat → Int32) (cM_sizeOf : Nat → Int32) (cM_number : Nat → Int32) (v : Int32 × Int32 × Int32 × Int32 × Int32 × (Nat → Int32) × (Nat → Int32) × (Nat → Int32) × (Nat → Int32) × (Nat → Int32) × (Nat → Int32) × (Nat → Int32)) : f_X8_judge_L68 x1 x2 cM_bitsOf cM_sizeOf cM_number 0 v = none := rfl
noncomputable def f_X8_judge_J41 (x1 : Int32) (x2 : Int32) (cM_bitsOf : Nat → Int32) (cM_sizeOf : Nat → Int32) (cM_number : Nat → Int32) (y3 : Int32) (vM_leaked : Int32) (vM_keptAll : Int32) (vM_offAll : Int32) (cM_d : Nat → Int32) (cM_f : Nat → Int32) (cM_came : Nat → Int32) (cM_got : Nat → Int32) (cM_held : Nat → Int32) (cM_off : Nat → Int32) (cM_found : Nat → Int32) : Option (Int32 × Int32 × Int32 × Int32 × (Nat → Int32) × (Nat → Int32) × (Nat → Int32) × (Nat → Int32) × (Nat → Int32) × (Nat → Int32) × (Nat → Int32)) :=
  br (y3 < 0)
  (bd (f_X8_copies cM_d cM_f) fun u3 =>
  f_X8_judge_L68 x1 x2 cM_bitsOf cM_sizeOf cM_number FU ((0 : Int32), (0 : Int32), vM_leaked, vM_keptAll, vM_offAll, cM_d, u3, cM_came, cM_got, cM_held, cM_off, cM_found))
  (bd (f_X8_finds y3 cM_found) fun u13 =>
  some (u13.1, vM_leaked, vM_keptAll, vM_offAll, cM_d, cM_f, cM_came, cM_got, cM_held, cM_off, u13.2))
noncomputable def f_X8_judge (x1 : Int32) (x2 : Int32) (vM_leaked : Int32) (vM_keptAll : Int32) (vM_offAll : Int32) (cM_bitsOf : Nat → Int32) (cM_d : Nat → Int32) (cM_f : Nat → Int32) (cM_sizeOf : Nat → Int32) (cM_came : Nat → Int32) (cM_got : Nat → Int32) (cM_held : Nat → Int32) (cM_off : Nat → Int32) (cM_number : Nat → Int32) (cM_found : Nat → Int32) : Option (Int32 × Int32 × Int32 × Int32 × (Nat → Int32) × (Nat → Int32) × (Nat → Int32) × (Nat → Int32) × (Nat → Int32) × (Nat → Int32) × (Nat → Int32)) :=
  bd (f_X8_whyNone x1 cM_bitsOf) fun u1 =>
  br (0 ≤ u1)
  (f_X8_judge_J41 x1 x2 cM_bitsOf cM_sizeOf cM_number u1 vM_leaked vM_keptAll vM_offAll cM_d cM_f cM_came cM_got cM_held cM_off cM_found)
  (bd (f_X8_isBasin x2 cM_d) fun u15 =>
  br (u15 = 0)
  (f_X8_judge_J41 x1 x2 cM_bitsOf cM_sizeOf cM_number (0 : Int32) vM_leaked vM_keptAll vM_offAll cM_d cM_f cM_came cM_got cM_held cM_off cM_found)
  (gd (vp_in x1 4) (bd (f_X8_isLate (cM_sizeOf x1.toNatClampNeg) cM_d) fun u18 =>
  br (u18 = 0)
  (f_X8_judge_J41 x1 x2 cM_bitsOf cM_sizeOf cM_number (-1 : Int32) vM_leaked vM_keptAll vM_offAll cM_d cM_f cM_came cM_got cM_held cM_off cM_found)
  (f_X8_judge_J41 x1 x2 cM_bitsOf cM_sizeOf cM_number (4 : Int32) vM_leaked vM_keptAll vM_offAll cM_d cM_f cM_came cM_got cM_held cM_off cM_found))))
noncomputable def f_X8_image (vM_isKept : Int32) (cM_d : Nat → Int32) (cM_kept : Nat → Int32) : Option (Int32 × Int32 × (Nat → Int32)) :=
  bd (f_X8_copies cM_d cM_kept) fun u1 =>
  some ((1 : Int32), (1 : Int32), u1)
noncomputable def f_X8_undo (vM_isKept : Int32) (cM_kept : Nat → Int32) (cM_d : Nat → Int32) (cM_found : Nat → Int32) : Option (Int32 × (Nat → Int32) × (Nat → Int32)) :=
  br (vM_isKept = 0)
  (bd (f_X8_finds (3 : Int32) cM_found) fun u3 =>
  some (u3.1, cM_d, u3.2))
  (bd (f_X8_copies cM_kept cM_d) fun u2 =>
  some ((u2 (1 : Int32).toNatClampNeg), u2, cM_found))
noncomputable def f_X8_tear (vM_isKept : Int32) : Option (Int32 × Int32) :=
  br (vM_isKept = 0)
  (some ((0 : Int32), (0 : Int32)))
  (some ((1 : Int32), (0 : Int32)))
noncomputable def f_X8_holding_L4_b (cM_d : Nat → Int32) (rc4 : (Int32 × Int32) → Option (Int32)) (y1 : Int32) (y2 : Int32) : Option (Int32) :=
  br ((10 : Int32) ≤ y2)
  (some y1)
  (gd (vp_in ((54 : Int32) + y2) 64) (br ((cM_d ((54 : Int32) + y2).toNatClampNeg) ≤ 0)
  (nm (y1 + (0 : Int32)) fun z4 =>
  rc4 (z4, (y2 + 1)))
  (nm (y1 + (1 : Int32)) fun z5 =>
  rc4 (z5, (y2 + 1)))))
noncomputable def f_X8_holding_L4 (cM_d : Nat → Int32) (k : Nat) : (Int32 × Int32) → Option (Int32) := lp (fun rc v => f_X8_holding_L4_b cM_d rc v.1 v.2) k
theorem f_X8_holding_L4_s (cM_d : Nat → Int32) (k : Nat) (y1 : Int32) (y2 : Int32) : f_X8_holding_L4 cM_d (k + 1) (y1, y2) = f_X8_holding_L4_b cM_d (f_X8_holding_L4 cM_d k) y1 y2 := rfl
theorem f_X8_holding_L4_0 (cM_d : Nat → Int32) (v : Int32 × Int32) : f_X8_holding_L4 cM_d 0 v = none := rfl
noncomputable def f_X8_holding (cM_d : Nat → Int32) : Option (Int32) :=
  f_X8_holding_L4 cM_d FU ((0 : Int32), (0 : Int32))
noncomputable def f_X8_count (x1 : Int32) (vM_taped : Int32) (cM_d : Nat → Int32) (cM_found : Nat → Int32) : Option (Int32 × (Nat → Int32)) :=
  br (x1 = 0)
  (some ((cM_d (1 : Int32).toNatClampNeg), cM_found))
  (br (x1 = 1)
  (some ((cM_d (0 : Int32).toNatClampNeg), cM_found))
  (br (x1 = 2)
  (bd (f_X8_sumOf (2 : Int32) cM_d) fun u9 =>
  some (u9, cM_found))
  (br (x1 = 3)
  (bd (f_X8_sumOf (3 : Int32) cM_d) fun u10 =>
  some (u10, cM_found))
  (br (x1 = 4)
  (some ((cM_d (3 : Int32).toNatClampNeg), cM_found))
  (br (x1 = 5)
  (some (vM_taped, cM_found))
  (br (x1 = 6)
  (some ((cM_d (2 : Int32).toNatClampNeg), cM_found))
  (br (x1 = 7)
  (bd (f_X8_holding cM_d) fun u11 =>
  some (u11, cM_found))
  (bd (f_X8_finds (0 : Int32) cM_found) fun u12 =>
  some (u12.1, u12.2)))))))))
noncomputable def f_X8_status_L24_b (x1 : Int32) (rc24 : (Int32 × Int32 × (Nat → Int32)) → Option (Int32 × (Nat → Int32))) (y2 : Int32) (y3 : Int32) (cM_found : Nat → Int32) : Option (Int32 × (Nat → Int32)) :=
  br ((7 : Int32) ≤ y3)
  (br (0 ≤ x1)
  (gd (vp_in x1 7) (some ((cM_found x1.toNatClampNeg), cM_found)))
  (some (y2, cM_found)))
  (gd (vp_in y3 7) (nm (y2 + (cM_found y3.toNatClampNeg)) fun z7 =>
  rc24 (z7, (y3 + 1), cM_found)))
noncomputable def f_X8_status_L24 (x1 : Int32) (k : Nat) : (Int32 × Int32 × (Nat → Int32)) → Option (Int32 × (Nat → Int32)) := lp (fun rc v => f_X8_status_L24_b x1 rc v.1 v.2.1 v.2.2) k
theorem f_X8_status_L24_s (x1 : Int32) (k : Nat) (y2 : Int32) (y3 : Int32) (cM_found : Nat → Int32) : f_X8_status_L24 x1 (k + 1) (y2, y3, cM_found) = f_X8_status_L24_b x1 (f_X8_status_L24 x1 k) y2 y3 cM_found := rfl
theorem f_X8_status_L24_0 (x1 : Int32) (v : Int32 × Int32 × (Nat → Int32)) : f_X8_status_L24 x1 0 v = none := rfl
noncomputable def f_X8_status (x1 : Int32) (cM_found : Nat → Int32) : Option (Int32 × (Nat → Int32)) :=
  bd (f_X8_in x1.toInt64 (-1 : Int64) (6 : Int64)) fun u1 =>
  br (u1 = 0)
  (bd (f_X8_finds (0 : Int32) cM_found) fun u8 =>
  some (u8.1, u8.2))
  (f_X8_status_L24 x1 FU ((0 : Int32), (0 : Int32), cM_found))
