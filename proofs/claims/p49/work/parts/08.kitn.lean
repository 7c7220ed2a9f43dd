/-! ===== constructors: contracts that make cells ===== -/
def MN (l : Launch) (y : MethodName) (ws : List Cond) (rm : Room) (D : va_G) (tys : List (ClassId × FieldType)) (av : List Value) (C : va_W) (S : Type) (C' : S → va_W) (X : State → Prop) (mc ms : Nat) : Prop := ∀ sz, Met l y ws rm (va_Pc av (fun U => kP D tys C sz U ∧ X U)) (va_Qv (fun (_ : S) => True) (fun u t => va_P D vwCl (C' u) t.heap ∧ va_D (va_A C sz) (C' u)) (va_A C sz)) mc ms (va_A C sz)
def kT : State → Prop := fun _ => True
def kX : State → Prop := fun U => va_Nw (.methodLinkNest RX7 38 yX0_init "ThirdFountain") U ∧ va_AO "ThirdFountain$Sheet" U
def kBl (X : State → Prop) : Prop := ∀ (U : State) (g : JFrame) (mk : MethodId) (a : Array Value), X U → X (U.calling g mk a)
theorem kBl_T : kBl kT := fun _ _ _ _ h => h
theorem kBl_X : kBl kX := fun U g mk a h => ⟨va_Nw.same (u := U) rfl rfl h.1, va_AO.moved (u := U) (Vm.Alike.refl U.vm) h.2⟩
theorem MN.mk {l : Launch} {y : MethodName} {ws ws' : List Cond} {rm : Room} {D : va_G} {tys : List (ClassId × FieldType)} {av : List Value} {C : va_W} {S : Type} {C' : S → va_W} {X : State → Prop} {mc ms : Nat} {cc : ByteArray} {maxL : Nat} {own : String}
    (hy : plainName y.cls = true) (hw : ws = Cond.code y cc maxL none :: ws') (ho : y.cls = own) (hn : (lg_sl av).length ≤ maxL)
    (body : ∀ (p : Program) (e : Env) (s : State) (m : MethodId) (args : Array Value) (below : List Frame) (meth : Method) (c : Code) (A : Nat → Prop) (Q : State → Prop),
      CallFix p m c cc maxL s args ws own → meth.name = y.name → X s → va_K D vwCl tys s → va_P D vwCl C s.heap → va_D A C → (∀ q : Nat, s.heap.size ≤ q → A q) →
      (∀ (u : S) (H : Heap) (locs : List Loc) (pc : Nat) (ls : Array Slot), va_P D vwCl (C' u) H → va_D A (C' u) → va_S A s.heap H locs → decode cc pc = .ok (.return_, 1) → W p l e rm s m args below meth c H locs mc ms Q (F0 m pc ls [])) →
      ∀ (ls : Array Slot), lv_has ls maxL (lv_args 0 av) → W p l e rm s m args below meth c s.heap [] 0 0 Q (F0 m 0 ls [])) : MN l y ws rm D tys av C S C' X mc ms := by
  intro sz
  refine Met.ofW (cc := cc) (maxL := maxL) (ret := none) hy hw ?_
  intro p e s m args below meth c s₁ B hml hv
  obtain ⟨rfl, ⟨hsz, hP, hK, hD0⟩, hX⟩ := hv
  have hx := B.exec
  have hb := B.bytes
  have hr := B.returns
  have hts := atoms_spec (ws := ws) B.pre
  have hown : s.vm.findClass own = some m.cls := by rw [← ho]; exact findClass_of_methodNamed B.named
  have hlocks := B.notSynchronized
  have hin : meth.name = y.name := (name_of_methodNamed B.named B.method).1
  subst hsz
  have hD := hD0.self (sz := s.heap.size)
  have hA : ∀ q : Nat, s.heap.size ≤ q → va_A C s.heap.size q := fun q h => Or.inr h
  have hl := lv_entry av (n := maxL) hn
  rw [lg_entry_eq]
  refine body p e s m _ below meth c (va_A C s.heap.size) _ ⟨hx, hb, hml, hown, hts⟩ hin hX hK hP hD hA ?_ _ hl
  intro u H locs pc ls hP9 hD9 hS hdg
  exact W.vret hx hb hr (fun t ht hW => ⟨⟨u, rfl, trivial, by rw [ht]; exact hP9, hD9⟩, hS.F ht⟩) hS.2.2 hdg
theorem k_cA {D : va_G} {s : State} {tys : List (ClassId × FieldType)} {cA cB : ClassId} {ty : FieldType} (t0 : Nat) (h0 : tys[t0]? = some (cB, ty)) (hK : va_K D vwCl (tys ++ [(cA, ty)]) s) : cA = cB := by
  have h1 := (hK.2 t0 (cB, ty) (by rw [List.getElem?_append_left (List.getElem?_eq_some_iff.mp h0).1]; exact h0)).2
  have h2 := (hK.2 tys.length (cA, ty) (by simp)).2
  cases ty with
  | object C =>
    obtain ⟨_, _, -, -, -, a4⟩ := h1
    obtain ⟨_, _, -, -, -, b4⟩ := h2
    exact Option.some.inj (b4.symm.trans a4)
  | _ => exact Option.some.inj (h2.symm.trans h1)
section KCN
variable {p : Program} {l : Launch} {e : Env} {R : Room} {s : State} {m : MethodId} {args : Array Value} {below : List Frame} {meth : Method} {c : Code} {H : Heap} {locs : List Loc} {Q : State → Prop} {cells slots : Nat}
variable {cc : ByteArray} {pc nL : Nat} {ls : Array Slot} {rest st : List Value} {D : va_G} {A : Nat → Prop} {tys : List (ClassId × FieldType)} {ws : va_W} {lv : List (Nat × Value)} {Ts : List Cond} {own : String}
theorem k_newI (hx : p.tables.exec = Jvm.exec) (hb : c.code = cc) (t0 : Nat) {cB : ClassId} (ht0 : tys[t0]? = some (cB, .int)) (harr : (Cond.arrayClass .int).before args s = true) (hK : va_K D vwCl tys s) (hP : va_P D vwCl ws H) (hD : va_D A ws) (hS : va_S A s.heap H locs) (hA : ∀ q, s.heap.size ≤ q → A q)
    {n : Int32} {N' : Nat} (hn : ¬ n < 0) (hN : n.toNatClampNeg = N') (hbytes : N' * 4 ≤ 536870912) (hcells : cells + 1 ≤ R.cells) (hslots : slots + N' ≤ R.slots) (hdg : decode cc pc = .ok (.newarray .int, 2))
    (kk : ∀ (q : Nat) (H1 : Heap), va_P D vwCl (ws ++ [(q, .inl (cB, N', .inl (fun _ => 0)))]) H1 → va_D A (ws ++ [(q, .inl (cB, N', .inl (fun _ => 0)))]) → va_S A s.heap H1 locs →
      W p l e R s m args below meth c H1 locs (cells + 1) (slots + N') Q (F0 m (pc + 2) ls (.ref q :: rest))) : W p l e R s m args below meth c H locs cells slots Q (F0 m pc ls (.int n :: rest)) := by
  refine va_newa hx hb (atype := .int) (ty := .int) harr rfl hK hP hD hS hA (a0 := (N', .inl (fun _ => 0))) (fun cA => rfl) hn hN hbytes hcells hslots hdg (fun q cA H1 hK1 hP1 hD1 hS1 => ?_)
  have e : cA = cB := k_cA t0 ht0 hK1
  subst e
  exact kk q H1 hP1 hD1 hS1
theorem k_newB (hx : p.tables.exec = Jvm.exec) (hb : c.code = cc) (t0 : Nat) {cB : ClassId} (ht0 : tys[t0]? = some (cB, .byte)) (harr : (Cond.arrayClass .byte).before args s = true) (hK : va_K D vwCl tys s) (hP : va_P D vwCl ws H) (hD : va_D A ws) (hS : va_S A s.heap H locs) (hA : ∀ q, s.heap.size ≤ q → A q)
    {n : Int32} {N' : Nat} (hn : ¬ n < 0) (hN : n.toNatClampNeg = N') (hbytes : N' * 1 ≤ 536870912) (hcells : cells + 1 ≤ R.cells) (hslots : slots + N' ≤ R.slots) (hdg : decode cc pc = .ok (.newarray .byte, 2))
    (kk : ∀ (q : Nat) (H1 : Heap), va_P D vwCl (ws ++ [(q, .inl (cB, N', .inl (fun _ => 0)))]) H1 → va_D A (ws ++ [(q, .inl (cB, N', .inl (fun _ => 0)))]) → va_S A s.heap H1 locs →
      W p l e R s m args below meth c H1 locs (cells + 1) (slots + N') Q (F0 m (pc + 2) ls (.ref q :: rest))) : W p l e R s m args below meth c H locs cells slots Q (F0 m pc ls (.int n :: rest)) := by
  refine va_newa hx hb (atype := .byte) (ty := .byte) harr rfl hK hP hD hS hA (a0 := (N', .inl (fun _ => 0))) (fun cA => rfl) hn hN hbytes hcells hslots hdg (fun q cA H1 hK1 hP1 hD1 hS1 => ?_)
  have e : cA = cB := k_cA t0 ht0 hK1
  subst e
  exact kk q H1 hP1 hD1 hS1
theorem k_newZ (hx : p.tables.exec = Jvm.exec) (hb : c.code = cc) (t0 : Nat) {cB : ClassId} (ht0 : tys[t0]? = some (cB, .boolean)) (harr : (Cond.arrayClass .boolean).before args s = true) (hK : va_K D vwCl tys s) (hP : va_P D vwCl ws H) (hD : va_D A ws) (hS : va_S A s.heap H locs) (hA : ∀ q, s.heap.size ≤ q → A q)
    {n : Int32} {N' : Nat} (hn : ¬ n < 0) (hN : n.toNatClampNeg = N') (hbytes : N' * 1 ≤ 536870912) (hcells : cells + 1 ≤ R.cells) (hslots : slots + N' ≤ R.slots) (hdg : decode cc pc = .ok (.newarray .boolean, 2))
    (kk : ∀ (q : Nat) (H1 : Heap), va_P D vwCl (ws ++ [(q, .inl (cB, N', .inl (fun _ => 0)))]) H1 → va_D A (ws ++ [(q, .inl (cB, N', .inl (fun _ => 0)))]) → va_S A s.heap H1 locs →
      W p l e R s m args below meth c H1 locs (cells + 1) (slots + N') Q (F0 m (pc + 2) ls (.ref q :: rest))) : W p l e R s m args below meth c H locs cells slots Q (F0 m pc ls (.int n :: rest)) := by
  refine va_newa hx hb (atype := .boolean) (ty := .boolean) harr rfl hK hP hD hS hA (a0 := (N', .inl (fun _ => 0))) (fun cA => rfl) hn hN hbytes hcells hslots hdg (fun q cA H1 hK1 hP1 hD1 hS1 => ?_)
  have e : cA = cB := k_cA t0 ht0 hK1
  subst e
  exact kk q H1 hP1 hD1 hS1
theorem k_newJ (hx : p.tables.exec = Jvm.exec) (hb : c.code = cc) (t0 : Nat) {cB : ClassId} (ht0 : tys[t0]? = some (cB, .long)) (harr : (Cond.arrayClass .long).before args s = true) (hK : va_K D vwCl tys s) (hP : va_P D vwCl ws H) (hD : va_D A ws) (hS : va_S A s.heap H locs) (hA : ∀ q, s.heap.size ≤ q → A q)
    {n : Int32} {N' : Nat} (hn : ¬ n < 0) (hN : n.toNatClampNeg = N') (hbytes : N' * 8 ≤ 536870912) (hcells : cells + 1 ≤ R.cells) (hslots : slots + N' ≤ R.slots) (hdg : decode cc pc = .ok (.newarray .long, 2))
    (kk : ∀ (q : Nat) (H1 : Heap), va_P D vwCl (ws ++ [(q, .inl (cB, N', .inr (.inl (fun _ => 0))))]) H1 → va_D A (ws ++ [(q, .inl (cB, N', .inr (.inl (fun _ => 0))))]) → va_S A s.heap H1 locs →
      W p l e R s m args below meth c H1 locs (cells + 1) (slots + N') Q (F0 m (pc + 2) ls (.ref q :: rest))) : W p l e R s m args below meth c H locs cells slots Q (F0 m pc ls (.int n :: rest)) := by
  refine va_newa hx hb (atype := .long) (ty := .long) harr rfl hK hP hD hS hA (a0 := (N', .inr (.inl (fun _ => 0)))) (fun cA => rfl) hn hN hbytes hcells hslots hdg (fun q cA H1 hK1 hP1 hD1 hS1 => ?_)
  have e : cA = cB := k_cA t0 ht0 hK1
  subst e
  exact kk q H1 hP1 hD1 hS1
theorem k_newQ (hx : p.tables.exec = Jvm.exec) (hb : c.code = cc) (t0 : Nat) {cB : ClassId} {C : String} {index : Nat} (ht0 : tys[t0]? = some (cB, .object C)) (hown : s.vm.findClass own = some m.cls) (hclink : (Cond.classLink own index C).before args s = true) (hover : va_AO C s) (hK : va_K D vwCl tys s) (hP : va_P D vwCl ws H) (hD : va_D A ws) (hS : va_S A s.heap H locs) (hA : ∀ q, s.heap.size ≤ q → A q)
    {n : Int32} {N' : Nat} (hn : ¬ n < 0) (hN : n.toNatClampNeg = N') (hbytes : N' * 4 ≤ 536870912) (hcells : cells + 1 ≤ R.cells) (hslots : slots + N' ≤ R.slots) (hdg : decode cc pc = .ok (.anewarray index, 3))
    (kk : ∀ (q : Nat) (H1 : Heap), va_P D vwCl (ws ++ [(q, .inl (cB, N', .inr (.inr (.inr (.inr (fun _ => none))))))]) H1 → va_D A (ws ++ [(q, .inl (cB, N', .inr (.inr (.inr (.inr (fun _ => none))))))]) → va_S A s.heap H1 locs →
      W p l e R s m args below meth c H1 locs (cells + 1) (slots + N') Q (F0 m (pc + 3) ls (.ref q :: rest))) : W p l e R s m args below meth c H locs cells slots Q (F0 m pc ls (.int n :: rest)) := by
  refine va_newq hx hb hown hclink hover hK hP hD hS hA hn hN hbytes hcells hslots hdg (fun q cA H1 hK1 hP1 hD1 hS1 => ?_)
  have e : cA = cB := k_cA t0 ht0 hK1
  subst e
  exact kk q H1 hP1 hD1 hS1
theorem cl_I {y : MethodName} {wy : List Cond} {rm : Room} {index n maxL mc ms : Nat} {bytes : ByteArray} {b : Nat} {As : List Value} {wc : va_W} {S : Type} {w1 W1 : S → va_W} {X : State → Prop}
    (F : CallFix p m c cc nL s args Ts own) (hK : va_K D vwCl tys s) (hP : va_P D vwCl ws H) (hD : va_D A ws) (hS : va_S A s.heap H locs) (hA : ∀ q : Nat, s.heap.size ≤ q → A q) (hl : lv_has ls nL lv)
    (hM : MN l y wy rm D tys (.ref b :: As) wc S w1 X mc ms) (cw : CallB R s args own index y bytes maxL none wy rm mc ms n ∧ y.name = "<init>" ∧ (Cond.instanceMethod y).before args s = true) (hX : ∀ U : State, U.heap = H → s.WarmedH U.vm → X U) (hXb : kBl X) (isC isR : List Nat)
    (hC : isC.map (fun i => ws[i]?) = wc.map some) (hR : isR.map (fun i => ws[i]?) = (isR.filterMap (fun i => ws[i]?)).map some) (hW1 : ∀ u, isR.filterMap (fun i => ws[i]?) ++ w1 u = W1 u)
    (hn : va_nd isC = true ∧ va_nd isR = true ∧ (∀ i ∈ isR, i ∉ isC)) (hlen : As.length = n) (hst : st = As.reverse ++ .ref b :: rest) (hrest : (rest.map fun v => v.category).sum ≤ 8) (hroom : cells + mc ≤ R.cells ∧ slots + ms ≤ R.slots) (hdg : decode cc pc = .ok (.invokespecial index, 3))
    (kk : ∀ (u : S) (H1 : Heap) (locs1 : List Loc), va_P D vwCl (W1 u) H1 → va_D A (W1 u) → va_S A s.heap H1 locs1 → W p l e R s m args below meth c H1 locs1 (cells + mc) (slots + ms) Q (F0 m (pc + 3) ls rest)) : W p l e R s m args below meth c H locs cells slots Q (F0 m pc ls st) := by
  subst hst
  have hFc := va_free (wc := wc) hD hS hA isC hC
  refine va_callv (va_runI (As := As) (rest := rest) F (hM H.size) cw ⟨fun a U g mk q => ⟨q.1, (kP_blind (av := .ref b :: As) a U g mk ⟨q.1, q.2.1⟩).2, hXb U g mk a q.2.2⟩, fun U hU hW => ⟨rfl, (k_pre (av := .ref b :: As) hK hP hD hC hn.1 U hU hW).2, hX U hU hW⟩⟩ rfl hlen hl.1 rfl (lv_room hrest) hdg hroom) hS (fun q _ h => hFc q h) hFc (fun u t H1 locs1 ht hvm hw hB hz1 hk1 hS => ?_)
  obtain ⟨hP1, hD1⟩ := hB
  rw [ht] at hP1
  obtain ⟨hP, hD⟩ := va_join hP hD isC isR hC hR hn.2.1 hn.2.2 hk1 hFc hP1 hD1
  rw [hW1] at hP hD
  exact kk u H1 locs1 hP hD hS
theorem cl_IN {y : MethodName} {wy : List Cond} {rm : Room} {index n maxL mc ms : Nat} {bytes : ByteArray} {host : String} {b : Nat} {As : List Value} {wc : va_W} {S : Type} {w1 W1 : S → va_W} {X : State → Prop}
    (F : CallFix p m c cc nL s args Ts own) (hK : va_K D vwCl tys s) (hP : va_P D vwCl ws H) (hD : va_D A ws) (hS : va_S A s.heap H locs) (hA : ∀ q : Nat, s.heap.size ≤ q → A q) (hl : lv_has ls nL lv)
    (hM : MN l y wy rm D tys (.ref b :: As) wc S w1 X mc ms) (cw : va_CN R s args own index y host bytes maxL none wy rm mc ms n ∧ y.name = "<init>" ∧ (Cond.instanceMethod y).before args s = true) (hX : ∀ U : State, U.heap = H → s.WarmedH U.vm → X U) (hXb : kBl X) (isC isR : List Nat)
    (hC : isC.map (fun i => ws[i]?) = wc.map some) (hR : isR.map (fun i => ws[i]?) = (isR.filterMap (fun i => ws[i]?)).map some) (hW1 : ∀ u, isR.filterMap (fun i => ws[i]?) ++ w1 u = W1 u)
    (hn : va_nd isC = true ∧ va_nd isR = true ∧ (∀ i ∈ isR, i ∉ isC)) (hlen : As.length = n) (hst : st = As.reverse ++ .ref b :: rest) (hrest : (rest.map fun v => v.category).sum ≤ 8) (hroom : cells + mc ≤ R.cells ∧ slots + ms ≤ R.slots) (hdg : decode cc pc = .ok (.invokespecial index, 3))
    (kk : ∀ (u : S) (H1 : Heap) (locs1 : List Loc), va_P D vwCl (W1 u) H1 → va_D A (W1 u) → va_S A s.heap H1 locs1 → W p l e R s m args below meth c H1 locs1 (cells + mc) (slots + ms) Q (F0 m (pc + 3) ls rest)) : W p l e R s m args below meth c H locs cells slots Q (F0 m pc ls st) := by
  subst hst
  have hFc := va_free (wc := wc) hD hS hA isC hC
  refine va_callv (va_runIN (As := As) (rest := rest) F (hM H.size) cw ⟨fun a U g mk q => ⟨q.1, (kP_blind (av := .ref b :: As) a U g mk ⟨q.1, q.2.1⟩).2, hXb U g mk a q.2.2⟩, fun U hU hW => ⟨rfl, (k_pre (av := .ref b :: As) hK hP hD hC hn.1 U hU hW).2, hX U hU hW⟩⟩ rfl hlen hl.1 rfl (lv_room hrest) hdg hroom) hS (fun q _ h => hFc q h) hFc (fun u t H1 locs1 ht hvm hw hB hz1 hk1 hS => ?_)
  obtain ⟨hP1, hD1⟩ := hB
  rw [ht] at hP1
  obtain ⟨hP, hD⟩ := va_join hP hD isC isR hC hR hn.2.1 hn.2.2 hk1 hFc hP1 hD1
  rw [hW1] at hP hD
  exact kk u H1 locs1 hP hD hS
end KCN
theorem k_arrq {D : va_G} {ws : va_W} {H : Heap} (hP : va_P D vwCl ws H) (q0 : Nat) {a n : Nat} {cA : ClassId} {f g : Nat → Option Nat} (he : ws[q0]? = some (a, .inl (cA, n, .inr (.inr (.inr (.inr f)))))) (hfg : ∀ j, j < n → f j = g j) : va_P D vwCl (ws.set q0 (a, .inl (cA, n, .inr (.inr (.inr (.inr g)))))) H := by
  intro k q hk
  rw [List.getElem?_set] at hk
  by_cases hkq : q0 = k
  · subst hkq
    rw [if_pos rfl] at hk
    have hlt : q0 < ws.length := (List.getElem?_eq_some_iff.mp he).1
    rw [if_pos hlt] at hk
    cases hk
    have h1 := hP q0 _ he
    show H[a]? = some (arrV cA n (fun j => va_rf (g j)))
    have h2 : H[a]? = some (arrV cA n (fun j => va_rf (f j))) := h1
    rw [h2]
    have h3 : (fun j : Fin n => va_rf (f j.val)) = (fun j : Fin n => va_rf (g j.val)) := by funext j; rw [hfg j.val j.isLt]
    unfold arrV
    rw [h3]
  · rw [if_neg hkq] at hk
    exact hP k q hk
theorem k_Dq {A : Nat → Prop} {ws : va_W} (hD : va_D A ws) (q0 : Nat) {a : Nat} {x y : va_E} (he : ws[q0]? = some (a, x)) : va_D A (ws.set q0 (a, y)) := by
  have key : ∀ (k : Nat) (q : Nat × va_E), (ws.set q0 (a, y))[k]? = some q → ∃ q', ws[k]? = some q' ∧ q'.1 = q.1 := by
    intro k q hk
    rw [List.getElem?_set] at hk
    by_cases hkq : q0 = k
    · subst hkq
      rw [if_pos rfl] at hk
      rw [if_pos (List.getElem?_eq_some_iff.mp he).1] at hk
      cases hk
      exact ⟨_, he, rfl⟩
    · rw [if_neg hkq] at hk
      exact ⟨q, hk, rfl⟩
  refine ⟨fun i j p q hi hj hpq => ?_, fun k q hk => ?_⟩
  · obtain ⟨p', h1, h2⟩ := key i p hi
    obtain ⟨q', h3, h4⟩ := key j q hj
    exact hD.1 i j p' q' h1 h3 (by rw [h2, h4, hpq])
  · obtain ⟨q', h1, h2⟩ := key k q hk
    rw [← h2]
    exact hD.2 k q' h1
