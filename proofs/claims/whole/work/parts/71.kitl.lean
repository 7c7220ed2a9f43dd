/-! ===== calls out of the law: any count of cells ===== -/
section KCL
variable {p : Program} {l : Launch} {e : Env} {R : Room} {s : State} {m : MethodId} {args : Array Value} {below : List Frame} {meth : Method} {c : Code} {H : Heap} {locs : List Loc} {Q : State → Prop} {cells slots : Nat} {adK adV : Nat → Nat} {fm : Nat}
variable {cc : ByteArray} {pc nL : Nat} {ls : Array Slot} {rest st : List Value} {D : va_G} {A : Nat → Prop} {tys : List (ClassId × FieldType)} {ws : va_W} {lv : List (Nat × Value)} {Ts : List Cond} {own : String}
theorem clL_Vi {y : MethodName} {wy : List Cond} {rm : Room} {index n maxL ci : Nat} {bytes : ByteArray} {ret : Option FieldType} {C : String} {T : u_T} {N : Nat} {fs : List Value} {b : Nat} {As : List Value} {wc w1 : va_W} {r : Int32}
    (F : CallFix p m c cc nL s args Ts own) (hK : va_K D vwCl tys s) (hP : va_P D vwCl ws H) (hD : va_D A ws) (hS : va_S A s.heap H locs) (hA : ∀ q : Nat, s.heap.size ≤ q → A q) (hl : lv_has ls nL lv)
    (hM : Mi l y wy rm D tys (.ref b :: As) wc w1 r) (cw : CallW R s args own C index y bytes maxL ret wy rm 0 0 n) (q0 : Nat) (isC isR ps : List Nat) (W1 : va_W)
    (hrec : ws[q0]? = some (b, .inr (ci, fs))) (hcl : vwCl[ci]? = some (C, T, N)) (hC : isC.map (fun i => ws[i]?) = wc.map some) (hR : w1.length = isC.length) (hps : k_mix isR ws w1 = W1)
    (hn : va_nd isC = true ∧ k_ok 0 isC isR = true) (hlen : As.length = n) (hst : st = As.reverse ++ .ref b :: rest) (hrest : (rest.map fun v => v.category).sum ≤ 8) (hroom : cells + 0 ≤ R.cells ∧ slots + 0 ≤ R.slots) (hdg : decode cc pc = .ok (.invokevirtual index, 3))
    (kk : ∀ (H1 : Heap) (locs1 : List Loc), va_P D vwCl W1 H1 → va_D A W1 → va_S A s.heap H1 locs1 → W p l e R s m args below meth c H1 locs1 cells slots Q (F0 m (pc + 3) ls (.int r :: rest))) : W p l e R s m args below meth c H locs cells slots Q (F0 m pc ls st) := by
  subst hst
  have hFc := va_free (wc := wc) hD hS hA isC hC
  refine va_calli (va_runV (As := As) (rest := rest) F (hM H.size) cw ⟨kP_blind, va_recv hK hP (q := (C, T, N)) hcl hrec, k_pre hK hP hD hC hn.1⟩ rfl hlen hl.1 rfl (lv_room hrest) hdg hroom) hS (fun q _ h => hFc q h) hFc (fun r1 u t H1 locs1 ht hvm hw hB hz1 hk1 hS => ?_)
  obtain ⟨hP1, hD1⟩ := hB
  rw [ht] at hP1
  obtain ⟨hP, hD⟩ := k_joinP hP hD isC isR hC hR hps hn.2 hk1 hFc hP1 hD1
  have hw : r1 = r := hw
  subst hw
  exact kk H1 locs1 hP hD hS
theorem clL_Vl {y : MethodName} {wy : List Cond} {rm : Room} {index n maxL ci : Nat} {bytes : ByteArray} {ret : Option FieldType} {C : String} {T : u_T} {N : Nat} {fs : List Value} {b : Nat} {As : List Value} {wc w1 : va_W} {r : Int64}
    (F : CallFix p m c cc nL s args Ts own) (hK : va_K D vwCl tys s) (hP : va_P D vwCl ws H) (hD : va_D A ws) (hS : va_S A s.heap H locs) (hA : ∀ q : Nat, s.heap.size ≤ q → A q) (hl : lv_has ls nL lv)
    (hM : Ml l y wy rm D tys (.ref b :: As) wc w1 r) (cw : CallW R s args own C index y bytes maxL ret wy rm 0 0 n) (q0 : Nat) (isC isR ps : List Nat) (W1 : va_W)
    (hrec : ws[q0]? = some (b, .inr (ci, fs))) (hcl : vwCl[ci]? = some (C, T, N)) (hC : isC.map (fun i => ws[i]?) = wc.map some) (hR : w1.length = isC.length) (hps : k_mix isR ws w1 = W1)
    (hn : va_nd isC = true ∧ k_ok 0 isC isR = true) (hlen : As.length = n) (hst : st = As.reverse ++ .ref b :: rest) (hrest : (rest.map fun v => v.category).sum ≤ 8) (hroom : cells + 0 ≤ R.cells ∧ slots + 0 ≤ R.slots) (hdg : decode cc pc = .ok (.invokevirtual index, 3))
    (kk : ∀ (H1 : Heap) (locs1 : List Loc), va_P D vwCl W1 H1 → va_D A W1 → va_S A s.heap H1 locs1 → W p l e R s m args below meth c H1 locs1 cells slots Q (F0 m (pc + 3) ls (.long r :: rest))) : W p l e R s m args below meth c H locs cells slots Q (F0 m pc ls st) := by
  subst hst
  have hFc := va_free (wc := wc) hD hS hA isC hC
  refine va_calll (va_runV (As := As) (rest := rest) F (hM H.size) cw ⟨kP_blind, va_recv hK hP (q := (C, T, N)) hcl hrec, k_pre hK hP hD hC hn.1⟩ rfl hlen hl.1 rfl (lv_room hrest) hdg hroom) hS (fun q _ h => hFc q h) hFc (fun r1 u t H1 locs1 ht hvm hw hB hz1 hk1 hS => ?_)
  obtain ⟨hP1, hD1⟩ := hB
  rw [ht] at hP1
  obtain ⟨hP, hD⟩ := k_joinP hP hD isC isR hC hR hps hn.2 hk1 hFc hP1 hD1
  have hw : r1 = r := hw
  subst hw
  exact kk H1 locs1 hP hD hS
theorem clLE_Vi {y : MethodName} {wy : List Cond} {rm : Room} {index n maxL : Nat} {bytes : ByteArray} {ret : Option FieldType} {C : String} {b : Nat} {As : List Value} {wc w1 : va_W} {r : Int32}
    (F : CallFix p m c cc nL s args Ts own) (hE : kEnv A s s.heap adK adV fm) (hK : va_K D vwCl tys s) (hP : va_P D vwCl ws H) (hD : va_D A ws) (hS : va_S A s.heap H locs) (hA : ∀ q : Nat, s.heap.size ≤ q → A q) (hl : lv_has ls nL lv)
    (hM : MiE l y wy rm D tys (.ref b :: As) wc w1 r adK adV fm) (cw : CallW R s args own C index y bytes maxL ret wy rm 0 0 n) (isC isR ps : List Nat) (W1 : va_W)
    (hrec : ∃ cell : Cell, H[b]? = some cell ∧ cell.vm.isStatics = false ∧ s.vm.findClass C = some cell.cls) (hC : isC.map (fun i => ws[i]?) = wc.map some) (hR : w1.length = isC.length) (hps : k_mix isR ws w1 = W1)
    (hn : va_nd isC = true ∧ k_ok 0 isC isR = true) (hlen : As.length = n) (hst : st = As.reverse ++ .ref b :: rest) (hrest : (rest.map fun v => v.category).sum ≤ 8) (hroom : cells + 0 ≤ R.cells ∧ slots + 0 ≤ R.slots) (hdg : decode cc pc = .ok (.invokevirtual index, 3))
    (kk : ∀ (H1 : Heap) (locs1 : List Loc), va_P D vwCl W1 H1 → va_D A W1 → va_S A s.heap H1 locs1 → W p l e R s m args below meth c H1 locs1 cells slots Q (F0 m (pc + 3) ls (.int r :: rest))) : W p l e R s m args below meth c H locs cells slots Q (F0 m pc ls st) := by
  subst hst
  have hFc := va_free (wc := wc) hD hS hA isC hC
  refine va_calli (va_runV (As := As) (rest := rest) F (hM H.size) cw ⟨kPE_blind, hrec, k_preE hE hS hK hP hD hC hn.1 hFc⟩ rfl hlen hl.1 rfl (lv_room hrest) hdg hroom) hS (fun q _ h => hFc q h) hFc (fun r1 u t H1 locs1 ht hvm hw hB hz1 hk1 hS => ?_)
  obtain ⟨hP1, hD1⟩ := hB
  rw [ht] at hP1
  obtain ⟨hP, hD⟩ := k_joinP hP hD isC isR hC hR hps hn.2 hk1 hFc hP1 hD1
  have hw : r1 = r := hw
  subst hw
  exact kk H1 locs1 hP hD hS
end KCL
theorem lgc_self (x : Int64) : lg_cmp x x = 0 := by
  unfold lg_cmp
  simp
