/-! ===== the law's methods: the script, its reader, the greatest common divisor ===== -/
def kN (U : State) : Prop := va_Nw (.fieldLinkNest RL 35 RX8 "pool" "[I" RL) U ∧ va_Nw (.fieldLinkNest RL 54 RX8 "spring" "I" RL) U ∧ va_Nw (.fieldLinkNest RL 15 RX8 "n" "I" RL) U
def sEnv (A : Nat → Prop) (U : State) (H : Heap) (b L : Nat) (xs : Nat → Int32) : Prop := va_X b L xs U H ∧ b < H.size ∧ ¬ A b ∧ va_Nw (.methodLinkNest RL 76 yX8_init RL) U ∧ kN U
theorem sEnv.to {A B : Nat → Prop} {s U : State} {H : Heap} {locs : List Loc} {b L : Nat} {xs : Nat → Int32} (h : sEnv A s s.heap b L xs) (hS : va_S A s.heap H locs) (hB : ∀ q, B q → A q) (hW : s.WarmedH U.vm) : sEnv B U H b L xs :=
  ⟨va_X.moved hW.alike (h.1.kept (hS.2.1 b h.2.1 h.2.2.1)), Nat.lt_of_lt_of_le h.2.1 hS.1, fun q => h.2.2.1 (hB _ q), va_Nw.warmM hW h.2.2.2.1, va_Nw.warmF hW h.2.2.2.2.1, va_Nw.warmF hW h.2.2.2.2.2.1, va_Nw.warmF hW h.2.2.2.2.2.2⟩
def kPS (D : va_G) (tys : List (ClassId × FieldType)) (C : va_W) (sz b L : Nat) (xs : Nat → Int32) : State → Prop := fun U => kP D tys C sz U ∧ sEnv (va_A C sz) U U.heap b L xs
theorem kPS_blind {D : va_G} {tys : List (ClassId × FieldType)} {C : va_W} {sz : Nat} {av : List Value} {b L : Nat} {xs : Nat → Int32} : FrameBlind (va_Pc av (kPS D tys C sz b L xs)) := fun a U g mk q => by
  obtain ⟨q0, q1, q2⟩ := q
  have h1 := kP_blind (av := av) a U g mk ⟨q0, q1⟩
  exact ⟨q0, h1.2, va_X.moved (u := U) (U := U.calling g mk a) (Vm.Alike.refl U.vm) q2.1, q2.2.1, q2.2.2.1, va_Nw.same (u := U) rfl rfl q2.2.2.2.1, va_Nw.same (u := U) rfl rfl q2.2.2.2.2.1, va_Nw.same (u := U) rfl rfl q2.2.2.2.2.2.1, va_Nw.same (u := U) rfl rfl q2.2.2.2.2.2.2⟩
def MiX (l : Launch) (y : MethodName) (ws : List Cond) (rm : Room) (D : va_G) (tys : List (ClassId × FieldType)) (av : List Value) (r : Int32) (b L : Nat) (xs : Nat → Int32) : Prop := ∀ sz, Met l y ws rm (va_Pc av (kPS D tys [] sz b L xs)) (va_Qi (fun (r' : Int32) (_ : Unit) => r' = r) (fun _ _ => True) (va_A [] sz)) 0 0 (va_A [] sz)
theorem MiX.mk {l : Launch} {y : MethodName} {ws ws' : List Cond} {rm : Room} {D : va_G} {tys : List (ClassId × FieldType)} {av : List Value} {r : Int32} {b L : Nat} {xs : Nat → Int32} {cc : ByteArray} {maxL : Nat} {rt : FieldType} {own : String}
    (hy : plainName y.cls = true) (hw : ws = Cond.code y cc maxL (some rt) :: ws') (ho : y.cls = own) (hn : (lg_sl av).length ≤ maxL)
    (body : ∀ (p : Program) (e : Env) (s : State) (m : MethodId) (args : Array Value) (below : List Frame) (meth : Method) (c : Code) (A : Nat → Prop) (Q : State → Prop),
      CallFix p m c cc maxL s args ws own → sEnv A s s.heap b L xs → (∀ q : Nat, s.heap.size ≤ q → A q) →
      (∀ (v : Int32) (H : Heap) (locs : List Loc) (pc : Nat) (ls : Array Slot), va_S A s.heap H locs → decode cc pc = .ok (.ireturn, 1) → narrow rt (.int v) = .int v → v = r → W p l e rm s m args below meth c H locs 0 0 Q (F0 m pc ls [.int v])) →
      ∀ (ls : Array Slot), lv_has ls maxL (lv_args 0 av) → W p l e rm s m args below meth c s.heap [] 0 0 Q (F0 m 0 ls [])) : MiX l y ws rm D tys av r b L xs := by
  intro sz
  refine Met.ofW (cc := cc) (maxL := maxL) (ret := some rt) hy hw ?_
  intro p e s m args below meth c s₁ B hml hv
  obtain ⟨rfl, ⟨hsz, hP, hK, hD0⟩, hE⟩ := hv
  have hx := B.exec
  have hb := B.bytes
  have hr := B.returns
  have hts := atoms_spec (ws := ws) B.pre
  have hown : s.vm.findClass own = some m.cls := by rw [← ho]; exact findClass_of_methodNamed B.named
  have hlocks := B.notSynchronized
  subst hsz
  have hA : ∀ q : Nat, s.heap.size ≤ q → va_A [] s.heap.size q := fun q h => Or.inr h
  have hl := lv_entry av (n := maxL) hn
  rw [lg_entry_eq]
  refine body p e s m _ below meth c (va_A [] s.heap.size) _ ⟨hx, hb, hml, hown, hts⟩ hE hA ?_ _ hl
  intro v H locs pc ls hS hdg hnr hv
  exact W.zret (v := v) hx hb hr hnr (fun t ht hW => ⟨⟨v, (), rfl, hv, trivial⟩, hS.F ht⟩) hS.2.2 hdg
/-- a method that makes cells, reads the script and answers one of its own cells -/
def MRX (l : Launch) (y : MethodName) (ws : List Cond) (rm : Room) (D : va_G) (tys : List (ClassId × FieldType)) (av : List Value) (C : va_W) (S : Type) (C' : S → va_W) (res : S → Nat) (b L : Nat) (xs : Nat → Int32) (mc ms : Nat) : Prop := ∀ sz, Met l y ws rm (va_Pc av (kPS D tys C sz b L xs)) (va_Qr (fun (_ : S) => True) (fun u a t => a = res u ∧ va_P D vwCl (C' u) t.heap ∧ va_D (va_A C sz) (C' u)) (va_A C sz)) mc ms (va_A C sz)
theorem MRX.mk {l : Launch} {y : MethodName} {ws ws' : List Cond} {rm : Room} {D : va_G} {tys : List (ClassId × FieldType)} {av : List Value} {C : va_W} {S : Type} {C' : S → va_W} {res : S → Nat} {b L : Nat} {xs : Nat → Int32} {mc ms : Nat} {cc : ByteArray} {maxL : Nat} {rt own : String}
    (hy : plainName y.cls = true) (hw : ws = Cond.code y cc maxL (some (.object rt)) :: ws') (ho : y.cls = own) (hn : (lg_sl av).length ≤ maxL)
    (body : ∀ (p : Program) (e : Env) (s : State) (m : MethodId) (args : Array Value) (below : List Frame) (meth : Method) (c : Code) (A : Nat → Prop) (Q : State → Prop),
      CallFix p m c cc maxL s args ws own → sEnv A s s.heap b L xs → va_K D vwCl tys s → va_P D vwCl C s.heap → va_D A C → (∀ q : Nat, s.heap.size ≤ q → A q) →
      (∀ (u : S) (H : Heap) (locs : List Loc) (pc : Nat) (ls : Array Slot), va_P D vwCl (C' u) H → va_D A (C' u) → va_S A s.heap H locs → decode cc pc = .ok (.areturn, 1) → W p l e rm s m args below meth c H locs mc ms Q (F0 m pc ls [.ref (res u)])) →
      ∀ (ls : Array Slot), lv_has ls maxL (lv_args 0 av) → W p l e rm s m args below meth c s.heap [] 0 0 Q (F0 m 0 ls [])) : MRX l y ws rm D tys av C S C' res b L xs mc ms := by
  intro sz
  refine Met.ofW (cc := cc) (maxL := maxL) (ret := some (.object rt)) hy hw ?_
  intro p e s m args below meth c s₁ B hml hv
  obtain ⟨rfl, ⟨hsz, hP, hK, hD0⟩, hE⟩ := hv
  have hx := B.exec
  have hb := B.bytes
  have hr := B.returns
  have hts := atoms_spec (ws := ws) B.pre
  have hown : s.vm.findClass own = some m.cls := by rw [← ho]; exact findClass_of_methodNamed B.named
  have hlocks := B.notSynchronized
  subst hsz
  have hD := hD0.self (sz := s.heap.size)
  have hA : ∀ q : Nat, s.heap.size ≤ q → va_A C s.heap.size q := fun q h => Or.inr h
  have hl := lv_entry av (n := maxL) hn
  rw [lg_entry_eq]
  refine body p e s m _ below meth c (va_A C s.heap.size) _ ⟨hx, hb, hml, hown, hts⟩ hE hK hP hD hA ?_ _ hl
  intro u H locs pc ls hP9 hD9 hS hdg
  exact W.aret (v := .ref (res u)) hx hb hr (Or.inl ⟨_, rfl⟩) (va_rf_or (some (res u))) (fun t ht hW => ⟨⟨u, res u, rfl, trivial, rfl, by rw [ht]; exact hP9, hD9⟩, hS.F ht⟩) hS.2.2 hdg
section KCL
variable {p : Program} {l : Launch} {e : Env} {R : Room} {s : State} {m : MethodId} {args : Array Value} {below : List Frame} {meth : Method} {c : Code} {H : Heap} {locs : List Loc} {Q : State → Prop} {cells slots : Nat} {b0 L : Nat} {xs : Nat → Int32}
variable {cc : ByteArray} {pc nL : Nat} {ls : Array Slot} {rest st : List Value} {D : va_G} {A : Nat → Prop} {tys : List (ClassId × FieldType)} {ws : va_W} {lv : List (Nat × Value)} {Ts : List Cond} {own : String}
theorem clL_Vi {y : MethodName} {wy : List Cond} {rm : Room} {index n maxL ci : Nat} {bytes : ByteArray} {ret : Option FieldType} {C : String} {T : u_T} {N : Nat} {fs : List Value} {b : Nat} {As : List Value} {wc w1 : va_W} {r : Int32}
    (F : CallFix p m c cc nL s args Ts own) (hK : va_K D vwCl tys s) (hP : va_P D vwCl ws H) (hD : va_D A ws) (hS : va_S A s.heap H locs) (hA : ∀ q : Nat, s.heap.size ≤ q → A q) (hl : lv_has ls nL lv)
    (hM : Mi l y wy rm D tys (.ref b :: As) wc w1 r) (cw : CallW R s args own C index y bytes maxL ret wy rm 0 0 n) (q0 : Nat) (isC isR ps : List Nat) (W1 : va_W)
    (hrec : ws[q0]? = some (b, .inr (ci, fs))) (hcl : vwCl[ci]? = some (C, T, N)) (hC : isC.map (fun i => ws[i]?) = wc.map some) (hR : w1.length = isC.length) (hps : k_mix isR ws w1 = W1)
    (hn : va_nd isC = true ∧ k_ok 0 isC isR = true) (hlen : As.length = n) (hst : st = As.reverse ++ .ref b :: rest) (hrest : (rest.map fun v => v.category).sum ≤ 8) (hroom : cells + 0 ≤ R.cells ∧ slots + 0 ≤ R.slots) (hdg : decode cc pc = .ok (.invokevirtual index, 3))
    (kk : ∀ (H1 : Heap) (locs1 : List Loc), va_P D vwCl W1 H1 → va_D A W1 → va_S A s.heap H1 locs1 → W p l e R s m args below meth c H1 locs1 cells slots Q (F0 m (pc + 3) ls (.int r :: rest))) : W p l e R s m args below meth c H locs cells slots Q (F0 m pc ls st) := by
  subst hst
  have hFc := va_free (wc := wc) hD hS hA isC hC
  refine va_calli (va_runV (As := As) (rest := rest) F (hM H.size) cw ⟨kP_blind, va_recv hK hP (q := (C, T, N)) hcl hrec, k_pre hK hP hD hC hn.1⟩ rfl hlen hl.1 rfl (lv_room hrest) hdg hroom) hS (fun q _ h => hFc q h) hFc (fun r1 u t H1 locs1 ht hvm hw hB hz1 hk1 hS => ?_)
  obtain ⟨hP1, hD1⟩ := hB
  rw [ht] at hP1
  obtain ⟨hP, hD⟩ := k_joinP hP hD isC isR hC hR hps hn.2 hk1 hFc hP1 hD1
  have hw : r1 = r := hw
  subst hw
  exact kk H1 locs1 hP hD hS
theorem clL_Vl {y : MethodName} {wy : List Cond} {rm : Room} {index n maxL ci : Nat} {bytes : ByteArray} {ret : Option FieldType} {C : String} {T : u_T} {N : Nat} {fs : List Value} {b : Nat} {As : List Value} {wc w1 : va_W} {r : Int64}
    (F : CallFix p m c cc nL s args Ts own) (hK : va_K D vwCl tys s) (hP : va_P D vwCl ws H) (hD : va_D A ws) (hS : va_S A s.heap H locs) (hA : ∀ q : Nat, s.heap.size ≤ q → A q) (hl : lv_has ls nL lv)
    (hM : Ml l y wy rm D tys (.ref b :: As) wc w1 r) (cw : CallW R s args own C index y bytes maxL ret wy rm 0 0 n) (q0 : Nat) (isC isR ps : List Nat) (W1 : va_W)
    (hrec : ws[q0]? = some (b, .inr (ci, fs))) (hcl : vwCl[ci]? = some (C, T, N)) (hC : isC.map (fun i => ws[i]?) = wc.map some) (hR : w1.length = isC.length) (hps : k_mix isR ws w1 = W1)
    (hn : va_nd isC = true ∧ k_ok 0 isC isR = true) (hlen : As.length = n) (hst : st = As.reverse ++ .ref b :: rest) (hrest : (rest.map fun v => v.category).sum ≤ 8) (hroom : cells + 0 ≤ R.cells ∧ slots + 0 ≤ R.slots) (hdg : decode cc pc = .ok (.invokevirtual index, 3))
    (kk : ∀ (H1 : Heap) (locs1 : List Loc), va_P D vwCl W1 H1 → va_D A W1 → va_S A s.heap H1 locs1 → W p l e R s m args below meth c H1 locs1 cells slots Q (F0 m (pc + 3) ls (.long r :: rest))) : W p l e R s m args below meth c H locs cells slots Q (F0 m pc ls st) := by
  subst hst
  have hFc := va_free (wc := wc) hD hS hA isC hC
  refine va_calll (va_runV (As := As) (rest := rest) F (hM H.size) cw ⟨kP_blind, va_recv hK hP (q := (C, T, N)) hcl hrec, k_pre hK hP hD hC hn.1⟩ rfl hlen hl.1 rfl (lv_room hrest) hdg hroom) hS (fun q _ h => hFc q h) hFc (fun r1 u t H1 locs1 ht hvm hw hB hz1 hk1 hS => ?_)
  obtain ⟨hP1, hD1⟩ := hB
  rw [ht] at hP1
  obtain ⟨hP, hD⟩ := k_joinP hP hD isC isR hC hR hps hn.2 hk1 hFc hP1 hD1
  have hw : r1 = r := hw
  subst hw
  exact kk H1 locs1 hP hD hS
theorem clL_Vv {y : MethodName} {wy : List Cond} {rm : Room} {index n maxL ci : Nat} {bytes : ByteArray} {ret : Option FieldType} {C : String} {T : u_T} {N : Nat} {fs : List Value} {b : Nat} {As : List Value} {wc w1 : va_W}
    (F : CallFix p m c cc nL s args Ts own) (hK : va_K D vwCl tys s) (hP : va_P D vwCl ws H) (hD : va_D A ws) (hS : va_S A s.heap H locs) (hA : ∀ q : Nat, s.heap.size ≤ q → A q) (hl : lv_has ls nL lv)
    (hM : Mv l y wy rm D tys (.ref b :: As) wc w1) (cw : CallW R s args own C index y bytes maxL ret wy rm 0 0 n) (q0 : Nat) (isC isR ps : List Nat) (W1 : va_W)
    (hrec : ws[q0]? = some (b, .inr (ci, fs))) (hcl : vwCl[ci]? = some (C, T, N)) (hC : isC.map (fun i => ws[i]?) = wc.map some) (hR : w1.length = isC.length) (hps : k_mix isR ws w1 = W1)
    (hn : va_nd isC = true ∧ k_ok 0 isC isR = true) (hlen : As.length = n) (hst : st = As.reverse ++ .ref b :: rest) (hrest : (rest.map fun v => v.category).sum ≤ 8) (hroom : cells + 0 ≤ R.cells ∧ slots + 0 ≤ R.slots) (hdg : decode cc pc = .ok (.invokevirtual index, 3))
    (kk : ∀ (H1 : Heap) (locs1 : List Loc), va_P D vwCl W1 H1 → va_D A W1 → va_S A s.heap H1 locs1 → W p l e R s m args below meth c H1 locs1 cells slots Q (F0 m (pc + 3) ls rest)) : W p l e R s m args below meth c H locs cells slots Q (F0 m pc ls st) := by
  subst hst
  have hFc := va_free (wc := wc) hD hS hA isC hC
  refine va_callv (va_runV (As := As) (rest := rest) F (hM H.size) cw ⟨kP_blind, va_recv hK hP (q := (C, T, N)) hcl hrec, k_pre hK hP hD hC hn.1⟩ rfl hlen hl.1 rfl (lv_room hrest) hdg hroom) hS (fun q _ h => hFc q h) hFc (fun u t H1 locs1 ht hvm hw hB hz1 hk1 hS => ?_)
  obtain ⟨hP1, hD1⟩ := hB
  rw [ht] at hP1
  obtain ⟨hP, hD⟩ := k_joinP hP hD isC isR hC hR hps hn.2 hk1 hFc hP1 hD1
  exact kk H1 locs1 hP hD hS
theorem clL_Si {y : MethodName} {wy : List Cond} {rm : Room} {index n maxL : Nat} {bytes : ByteArray} {ret : Option FieldType} {As : List Value} {wc w1 : va_W} {r : Int32}
    (F : CallFix p m c cc nL s args Ts own) (hK : va_K D vwCl tys s) (hP : va_P D vwCl ws H) (hD : va_D A ws) (hS : va_S A s.heap H locs) (hA : ∀ q : Nat, s.heap.size ≤ q → A q) (hl : lv_has ls nL lv)
    (hM : Mi l y wy rm D tys As wc w1 r) (cw : CallB R s args own index y bytes maxL ret wy rm 0 0 n ∧ (Cond.static y).before args s = true) (isC isR ps : List Nat) (W1 : va_W)
    (hC : isC.map (fun i => ws[i]?) = wc.map some) (hR : w1.length = isC.length) (hps : k_mix isR ws w1 = W1)
    (hn : va_nd isC = true ∧ k_ok 0 isC isR = true) (hlen : As.length = n) (hst : st = As.reverse ++ rest) (hrest : (rest.map fun v => v.category).sum ≤ 8) (hroom : cells + 0 ≤ R.cells ∧ slots + 0 ≤ R.slots) (hdg : decode cc pc = .ok (.invokestatic index, 3))
    (kk : ∀ (H1 : Heap) (locs1 : List Loc), va_P D vwCl W1 H1 → va_D A W1 → va_S A s.heap H1 locs1 → W p l e R s m args below meth c H1 locs1 cells slots Q (F0 m (pc + 3) ls (.int r :: rest))) : W p l e R s m args below meth c H locs cells slots Q (F0 m pc ls st) := by
  subst hst
  have hFc := va_free (wc := wc) hD hS hA isC hC
  refine va_calli (va_runS (As := As) (rest := rest) F (hM H.size) cw ⟨kP_blind, k_pre hK hP hD hC hn.1⟩ rfl hlen hl.1 rfl (lv_room hrest) hdg hroom) hS (fun q _ h => hFc q h) hFc (fun r1 u t H1 locs1 ht hvm hw hB hz1 hk1 hS => ?_)
  obtain ⟨hP1, hD1⟩ := hB
  rw [ht] at hP1
  obtain ⟨hP, hD⟩ := k_joinP hP hD isC isR hC hR hps hn.2 hk1 hFc hP1 hD1
  have hw : r1 = r := hw
  subst hw
  exact kk H1 locs1 hP hD hS
theorem clX_Si {y : MethodName} {wy : List Cond} {rm : Room} {index n maxL : Nat} {bytes : ByteArray} {ret : Option FieldType} {As : List Value} {r : Int32}
    (F : CallFix p m c cc nL s args Ts own) (hE : sEnv A s s.heap b0 L xs) (hK : va_K D vwCl tys s) (hP : va_P D vwCl ws H) (hD : va_D A ws) (hS : va_S A s.heap H locs) (hA : ∀ q : Nat, s.heap.size ≤ q → A q) (hl : lv_has ls nL lv)
    (hM : MiX l y wy rm D tys As r b0 L xs) (cw : CallB R s args own index y bytes maxL ret wy rm 0 0 n ∧ (Cond.static y).before args s = true)
    (hlen : As.length = n) (hst : st = As.reverse ++ rest) (hrest : (rest.map fun v => v.category).sum ≤ 8) (hroom : cells + 0 ≤ R.cells ∧ slots + 0 ≤ R.slots) (hdg : decode cc pc = .ok (.invokestatic index, 3))
    (kk : ∀ (H1 : Heap) (locs1 : List Loc), va_P D vwCl ws H1 → va_D A ws → va_S A s.heap H1 locs1 → W p l e R s m args below meth c H1 locs1 cells slots Q (F0 m (pc + 3) ls (.int r :: rest))) : W p l e R s m args below meth c H locs cells slots Q (F0 m pc ls st) := by
  subst hst
  have hFc := va_free (wc := []) hD hS hA [] rfl
  refine va_calli (va_runS (As := As) (rest := rest) F (hM H.size) cw ⟨kPS_blind, fun U hU hW => ⟨(k_pre (av := As) hK hP hD (isC := []) (wc := []) rfl rfl U hU hW).1, (k_pre (av := As) hK hP hD (isC := []) (wc := []) rfl rfl U hU hW).2, by rw [hU]; exact hE.to hS (fun q h => hFc q h) hW⟩⟩ rfl hlen hl.1 rfl (lv_room hrest) hdg hroom) hS (fun q _ h => hFc q h) hFc (fun r1 u t H1 locs1 ht hvm hw hB hz1 hk1 hS => ?_)
  have hw : r1 = r := hw
  subst hw
  refine kk H1 locs1 (hP.kept (fun k q hk => hk1 q.1 (hP k q hk).lt (fun h => ?_))) hD hS
  rcases h with ⟨k2, e2, h⟩ | h
  · simp at h
  · exact absurd (hP k q hk).lt (Nat.not_lt.mpr h)
theorem clX_Sr {y : MethodName} {wy : List Cond} {rm : Room} {index n maxL mc ms : Nat} {bytes : ByteArray} {ret : Option FieldType} {As : List Value} {wc : va_W} {S : Type} {w1 W1 : S → va_W} {res : S → Nat}
    (F : CallFix p m c cc nL s args Ts own) (hE : sEnv A s s.heap b0 L xs) (hK : va_K D vwCl tys s) (hP : va_P D vwCl ws H) (hD : va_D A ws) (hS : va_S A s.heap H locs) (hA : ∀ q : Nat, s.heap.size ≤ q → A q) (hl : lv_has ls nL lv)
    (hM : MRX l y wy rm D tys As wc S w1 res b0 L xs mc ms) (cw : CallB R s args own index y bytes maxL ret wy rm mc ms n ∧ (Cond.static y).before args s = true) (isC isR : List Nat)
    (hC : isC.map (fun i => ws[i]?) = wc.map some) (hR : isR.map (fun i => ws[i]?) = (isR.filterMap (fun i => ws[i]?)).map some) (hW1 : ∀ u, isR.filterMap (fun i => ws[i]?) ++ w1 u = W1 u)
    (hn : va_nd isC = true ∧ va_nd isR = true ∧ (∀ i ∈ isR, i ∉ isC)) (hlen : As.length = n) (hst : st = As.reverse ++ rest) (hrest : (rest.map fun v => v.category).sum ≤ 8) (hroom : cells + mc ≤ R.cells ∧ slots + ms ≤ R.slots) (hdg : decode cc pc = .ok (.invokestatic index, 3))
    (kk : ∀ (u : S) (H1 : Heap) (locs1 : List Loc), va_P D vwCl (W1 u) H1 → va_D A (W1 u) → va_S A s.heap H1 locs1 → W p l e R s m args below meth c H1 locs1 (cells + mc) (slots + ms) Q (F0 m (pc + 3) ls (.ref (res u) :: rest))) : W p l e R s m args below meth c H locs cells slots Q (F0 m pc ls st) := by
  subst hst
  have hFc := va_free (wc := wc) hD hS hA isC hC
  refine va_callr (va_runS (As := As) (rest := rest) F (hM H.size) cw ⟨kPS_blind, fun U hU hW => ⟨(k_pre (av := As) hK hP hD hC hn.1 U hU hW).1, (k_pre (av := As) hK hP hD hC hn.1 U hU hW).2, by rw [hU]; exact hE.to hS (fun q h => hFc q h) hW⟩⟩ rfl hlen hl.1 rfl (lv_room hrest) hdg hroom) hS (fun q _ h => hFc q h) hFc (fun u ra t H1 locs1 ht hvm hw hB hz1 hk1 hS => ?_)
  obtain ⟨rfl, hP1, hD1⟩ := hB
  rw [ht] at hP1
  obtain ⟨hP, hD⟩ := va_join hP hD isC isR hC hR hn.2.1 hn.2.2 hk1 hFc hP1 hD1
  rw [hW1] at hP hD
  exact kk u H1 locs1 hP hD hS
end KCL
noncomputable def f_L_cell (L : Nat) (xs : Nat → Int32) (x : Int32) : Option Int32 :=
  br (Int32.ofNat L ≤ x) (some ((23 : Int32) + (53 : Int32) * (x - Int32.ofNat L))) (gd (vp_in x L) (some (xs x.toNatClampNeg &&& (2147483647 : Int32))))
set_option maxRecDepth 100000 in
theorem t_L_cell (l : Launch) (D : va_G) (cyI cyJ cyZ cyB cyO : ClassId) (b L : Nat) (xs : Nat → Int32) (x1 : Int32) (out : Int32) (h : f_L_cell L xs x1 = some out) : MiX l yL_cell wsL_cell ({ frames := 1, cells := 0, slots := 0, locals := 22 } : Room) D (tyA cyI cyJ cyZ cyB cyO) [.ref b, .int x1] out b L xs := by
  refine MiX.mk (cc := cL_cell) (maxL := 2) (rt := .int) (own := RL) (by decide) rfl rfl (Nat.le_of_ble_eq_true rfl) ?_
  intro p e s m args below meth c A Q F hE hA hret ls hl
  obtain ⟨hx, hb, hml, hown, hts⟩ := id F
  obtain ⟨hX, hbl, hbA, -⟩ := hE
  have hS : va_S A s.heap s.heap [] := va_S.rf
  have hl : lv_has ls 2 [(0, .ref b), (1, .int x1)] := hl
  have q1 := hts (Cond.constant RL 9 (2147483647)) (List.mem_of_getElem? (i := 1) rfl)
  unfold f_L_cell at h
  refine lv_iload_n hx hb dL_cell_0 rfl (lv_at hl 1 rfl) ?_
  refine lv_aload_n hx hb dL_cell_1 rfl (lv_at hl 0 rfl) ?_
  refine va_slen hx hb hX hbl hbA hS dL_cell_2 ?_
  refine lv_icmp_ge (tgt := 15) hx hb dL_cell_3 (by decide) (fun c1 => ?_) (fun c1 => ?_)
  · have h := br_pos c1 h
    refine lv_bipush (v := 23) hx hb dL_cell_15 (by decide) ?_
    refine lv_bipush (v := 53) hx hb dL_cell_17 (by decide) ?_
    refine lv_iload_n hx hb dL_cell_19 rfl (lv_at hl 1 rfl) ?_
    refine lv_aload_n hx hb dL_cell_20 rfl (lv_at hl 0 rfl) ?_
    refine va_slen hx hb hX hbl hbA hS dL_cell_21 ?_
    refine lv_isub hx hb dL_cell_22 ?_
    refine lv_imul hx hb dL_cell_23 ?_
    refine lv_iadd hx hb dL_cell_24 ?_
    obtain rfl := Option.some.inj h
    exact hret _ _ _ _ _ hS dL_cell_25 rfl rfl
  · have h := br_neg c1 h
    obtain ⟨g1, h⟩ := gd_some h
    refine lv_aload_n hx hb dL_cell_6 rfl (lv_at hl 0 rfl) ?_
    refine lv_iload_n hx hb dL_cell_7 rfl (lv_at hl 1 rfl) ?_
    refine va_sld hx hb hX hbl hbA hS g1 dL_cell_8 ?_
    refine lv_ldc (v := 2147483647) hx hb hown q1 dL_cell_9 ?_
    refine lv_iand hx hb dL_cell_11 ?_
    refine lv_goto (tgt := 25) hx hb dL_cell_12 (by decide) ?_
    obtain rfl := Option.some.inj h
    exact hret _ _ _ _ _ hS dL_cell_25 rfl rfl
/-- the greatest common divisor as the law reckons it: n calls deep at most -/
noncomputable def cmn : Nat → Int64 → Int64 → Option Int64
  | 0, _, _ => none
  | n + 1, a, b => br (lg_cmp b 0 = 0) (some a) (gd (¬ b = 0) (cmn n b (a - a / b * b)))
noncomputable def f_L_common (x0 x2 : Int64) : Option Int64 := cmn 150 x0 x2
def rmC (n : Nat) : Room := { frames := n, cells := 0, slots := 0, locals := 23 * n }
set_option maxRecDepth 100000 in
theorem t_L_common_n (l : Launch) (D : va_G) (cyI cyJ cyZ cyB cyO : ClassId) : ∀ (n : Nat) (x0 x2 out : Int64), cmn n x0 x2 = some out → Ml l yL_common wsL_common (rmC n) D (tyA cyI cyJ cyZ cyB cyO) [.long x0, .long x2] [] [] out
  | 0, _, _, _, h => by cases h
  | n + 1, x0, x2, out, h => by
    have ih := t_L_common_n l D cyI cyJ cyZ cyB cyO n
    refine Ml.mk (cc := cL_common) (maxL := 4) (own := RL) (by decide) rfl rfl (Nat.le_of_ble_eq_true rfl) ?_
    intro p e s m args below meth c A Q F hK hP hD hA hret ls hl
    obtain ⟨hx, hb, hml, hown, hts⟩ := id F
    have hS : va_S A s.heap s.heap [] := va_S.rf
    have hl : lv_has ls 4 [(0, .long x0), (2, .long x2)] := hl
    unfold cmn at h
    refine lv_lload_n hx hb dL_common_0 rfl (lv_at hl 1 rfl) ?_
    refine lv_lconst (v := 0) hx hb dL_common_1 (by decide) ?_
    refine W.lcmp hx hb dL_common_2 ?_
    refine lv_if_ne (tgt := 10) hx hb dL_common_3 (by decide) (fun c1 => ?_) (fun c1 => ?_)
    · have h := br_neg c1 h
      obtain ⟨g1, h⟩ := gd_some h
      refine lv_lload_n hx hb dL_common_10 rfl (lv_at hl 1 rfl) ?_
      refine lv_lload_n hx hb dL_common_11 rfl (lv_at hl 0 rfl) ?_
      refine lv_lload_n hx hb dL_common_12 rfl (lv_at hl 1 rfl) ?_
      refine lv_lrem hx hb dL_common_13 g1 ?_
      refine cl_Sl (rest := []) F hK hP hD hS hA hl (ih x2 (x0 - x0 / x2 * x2) out h) (va_cwS 2 hts gL_common_L_common rfl rfl rfl (by decide +kernel) ⟨Nat.le_refl _, (show 8 + (4 + 11) + 23 * n ≤ 23 * (n + 1) by omega)⟩) [] [] [] [] rfl rfl rfl (by decide +kernel) rfl rfl (Nat.le_of_ble_eq_true rfl) ⟨Nat.zero_le _, Nat.zero_le _⟩ dL_common_14 (fun H locs hP hD hS => ?_)
      exact hret _ _ _ _ _ hP hD hS dL_common_17 rfl
    · have h := br_pos c1 h
      refine lv_lload_n hx hb dL_common_6 rfl (lv_at hl 0 rfl) ?_
      refine lv_goto (tgt := 17) hx hb dL_common_7 (by decide) ?_
      obtain rfl := Option.some.inj h
      exact hret _ _ _ _ _ hP hD hS dL_common_17 rfl
theorem t_L_common (l : Launch) (D : va_G) (cyI cyJ cyZ cyB cyO : ClassId) (x0 x2 out : Int64) (h : f_L_common x0 x2 = some out) : Ml l yL_common wsL_common ({ frames := 150, cells := 0, slots := 0, locals := 3450 } : Room) D (tyA cyI cyJ cyZ cyB cyO) [.long x0, .long x2] [] [] out := t_L_common_n l D cyI cyJ cyZ cyB cyO 150 x0 x2 out h
