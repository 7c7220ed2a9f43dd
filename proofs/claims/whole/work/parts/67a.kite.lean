/-! ===== methods that read the class's string constants: the constants, and the two statics that String asks ===== -/
def kEnv (A : Nat → Prop) (U : State) (H : Heap) (adK adV : Nat → Nat) (fm : Nat) : Prop :=
  vk_S 10 kLen kByt adK adV A U H ∧ va_Z "java/lang/String" "COMPACT_STRINGS" "Z" (.int 1) A U H ∧ (va_Z "jdk/internal/util/Preconditions" "SIOOBE_FORMATTER" "Ljava/util/function/BiFunction;" .null A U H ∨ va_Z "jdk/internal/util/Preconditions" "SIOOBE_FORMATTER" "Ljava/util/function/BiFunction;" (.ref fm) A U H) ∧ ∀ i : Nat, i < 10 → vk_R RX6 (kIx.getD i 0) (kTx.getD i "") (adK i) U
theorem kEnv.to {A B : Nat → Prop} {s U : State} {H : Heap} {locs : List Loc} {adK adV : Nat → Nat} {fm : Nat} (h : kEnv A s s.heap adK adV fm) (hS : va_S A s.heap H locs) (hB : ∀ q, B q → A q) (hW : s.WarmedH U.vm) : kEnv B U H adK adV fm :=
  ⟨vk_S.moved hW.alike ((h.1.kept hS.2.1).narrow hB), va_Z.moved hW.alike ((h.2.1.kept hS.2.1).narrow hB), h.2.2.1.elim (fun q => Or.inl (va_Z.moved hW.alike ((q.kept hS.2.1).narrow hB))) (fun q => Or.inr (va_Z.moved hW.alike ((q.kept hS.2.1).narrow hB))), fun i hi => vk_R.warm hW (h.2.2.2 i hi)⟩
def kPE (D : va_G) (tys : List (ClassId × FieldType)) (C : va_W) (sz : Nat) (adK adV : Nat → Nat) (fm : Nat) : State → Prop := fun U => kP D tys C sz U ∧ kEnv (va_A C sz) U U.heap adK adV fm
theorem kPE_blind {D : va_G} {tys : List (ClassId × FieldType)} {C : va_W} {sz : Nat} {av : List Value} {adK adV : Nat → Nat} {fm : Nat} : FrameBlind (va_Pc av (kPE D tys C sz adK adV fm)) := fun a U g mk q => by
  obtain ⟨q0, q1, q2⟩ := q
  have h1 := kP_blind (av := av) a U g mk ⟨q0, q1⟩
  exact ⟨q0, h1.2, vk_S.moved (u := U) (U := U.calling g mk a) (Vm.Alike.refl U.vm) q2.1, va_Z.moved (u := U) (U := U.calling g mk a) (Vm.Alike.refl U.vm) q2.2.1, q2.2.2.1.elim (fun q => Or.inl (va_Z.moved (u := U) (U := U.calling g mk a) (Vm.Alike.refl U.vm) q)) (fun q => Or.inr (va_Z.moved (u := U) (U := U.calling g mk a) (Vm.Alike.refl U.vm) q)), fun i hi => vk_R.same (u := U) (U := U.calling g mk a) rfl (q2.2.2.2 i hi)⟩

def MiE (l : Launch) (y : MethodName) (ws : List Cond) (rm : Room) (D : va_G) (tys : List (ClassId × FieldType)) (av : List Value) (C C' : va_W) (r : Int32) (adK adV : Nat → Nat) (fm : Nat) : Prop := ∀ sz, Met l y ws rm (va_Pc av (kPE D tys C sz adK adV fm)) (va_Qi (fun (r' : Int32) (_ : Unit) => r' = r) (fun _ t => va_P D vwCl C' t.heap ∧ va_D (va_A C sz) C') (va_A C sz)) 0 0 (va_A C sz)
theorem MiE.mk {l : Launch} {y : MethodName} {ws ws' : List Cond} {rm : Room} {D : va_G} {tys : List (ClassId × FieldType)} {av : List Value} {C C' : va_W} {r : Int32} {cc : ByteArray} {maxL : Nat} {adK adV : Nat → Nat} {fm : Nat} {rt : FieldType} {own : String}
    (hy : plainName y.cls = true) (hw : ws = Cond.code y cc maxL (some rt) :: ws') (ho : y.cls = own) (hn : (lg_sl av).length ≤ maxL)
    (body : ∀ (p : Program) (e : Env) (s : State) (m : MethodId) (args : Array Value) (below : List Frame) (meth : Method) (c : Code) (A : Nat → Prop) (Q : State → Prop),
      CallFix p m c cc maxL s args ws own → kEnv A s s.heap adK adV fm → va_K D vwCl tys s → va_P D vwCl C s.heap → va_D A C → (∀ q : Nat, s.heap.size ≤ q → A q) →
      (∀ (v : Int32) (H : Heap) (locs : List Loc) (pc : Nat) (ls : Array Slot), va_P D vwCl C' H → va_D A C' → va_S A s.heap H locs → decode cc pc = .ok (.ireturn, 1) → narrow rt (.int v) = .int v → v = r → W p l e rm s m args below meth c H locs 0 0 Q (F0 m pc ls [.int v])) →
      ∀ (ls : Array Slot), lv_has ls maxL (lv_args 0 av) → W p l e rm s m args below meth c s.heap [] 0 0 Q (F0 m 0 ls [])) : MiE l y ws rm D tys av C C' r adK adV fm := by
  intro sz
  refine Met.ofW (cc := cc) (maxL := maxL) (ret := some rt) hy hw ?_
  intro p e s m args below meth c s₁ B hml hv
  obtain ⟨rfl, ⟨hsz, hP, hK, hD0⟩, hE⟩ := hv
  have hx := B.exec
  have hb := B.bytes
  have hr := B.returns
  have hts := atoms_spec (ws := ws) B.pre
  have hown : s.vm.findClass own = some m.cls := by rw [← ho]; exact findClass_of_methodNamed B.named
  have hlocks := B.notSynchronized
  subst hsz
  have hD := hD0.self (sz := s.heap.size)
  have hA : ∀ q : Nat, s.heap.size ≤ q → va_A C s.heap.size q := fun q h => Or.inr h
  have hl := lv_entry av (n := maxL) hn
  rw [lg_entry_eq]
  refine body p e s m _ below meth c (va_A C s.heap.size) _ ⟨hx, hb, hml, hown, hts⟩ hE hK hP hD hA ?_ _ hl
  intro v H locs pc ls hP9 hD9 hS hdg hnr hv
  exact W.zret (v := v) hx hb hr hnr (fun t ht hW => ⟨⟨v, (), rfl, hv, by rw [ht]; exact hP9, hD9⟩, hS.F ht⟩) hS.2.2 hdg
def MvE (l : Launch) (y : MethodName) (ws : List Cond) (rm : Room) (D : va_G) (tys : List (ClassId × FieldType)) (av : List Value) (C C' : va_W) (adK adV : Nat → Nat) (fm : Nat) : Prop := ∀ sz, Met l y ws rm (va_Pc av (kPE D tys C sz adK adV fm)) (va_Qv (fun (_ : Unit) => True) (fun _ t => va_P D vwCl C' t.heap ∧ va_D (va_A C sz) C') (va_A C sz)) 0 0 (va_A C sz)
theorem MvE.mk {l : Launch} {y : MethodName} {ws ws' : List Cond} {rm : Room} {D : va_G} {tys : List (ClassId × FieldType)} {av : List Value} {C C' : va_W} {cc : ByteArray} {maxL : Nat} {adK adV : Nat → Nat} {fm : Nat} {own : String}
    (hy : plainName y.cls = true) (hw : ws = Cond.code y cc maxL none :: ws') (ho : y.cls = own) (hn : (lg_sl av).length ≤ maxL)
    (body : ∀ (p : Program) (e : Env) (s : State) (m : MethodId) (args : Array Value) (below : List Frame) (meth : Method) (c : Code) (A : Nat → Prop) (Q : State → Prop),
      CallFix p m c cc maxL s args ws own → kEnv A s s.heap adK adV fm → va_K D vwCl tys s → va_P D vwCl C s.heap → va_D A C → (∀ q : Nat, s.heap.size ≤ q → A q) →
      (∀ (H : Heap) (locs : List Loc) (pc : Nat) (ls : Array Slot), va_P D vwCl C' H → va_D A C' → va_S A s.heap H locs → decode cc pc = .ok (.return_, 1) → W p l e rm s m args below meth c H locs 0 0 Q (F0 m pc ls [])) →
      ∀ (ls : Array Slot), lv_has ls maxL (lv_args 0 av) → W p l e rm s m args below meth c s.heap [] 0 0 Q (F0 m 0 ls [])) : MvE l y ws rm D tys av C C' adK adV fm := by
  intro sz
  refine Met.ofW (cc := cc) (maxL := maxL) (ret := none) hy hw ?_
  intro p e s m args below meth c s₁ B hml hv
  obtain ⟨rfl, ⟨hsz, hP, hK, hD0⟩, hE⟩ := hv
  have hx := B.exec
  have hb := B.bytes
  have hr := B.returns
  have hts := atoms_spec (ws := ws) B.pre
  have hown : s.vm.findClass own = some m.cls := by rw [← ho]; exact findClass_of_methodNamed B.named
  have hlocks := B.notSynchronized
  subst hsz
  have hD := hD0.self (sz := s.heap.size)
  have hA : ∀ q : Nat, s.heap.size ≤ q → va_A C s.heap.size q := fun q h => Or.inr h
  have hl := lv_entry av (n := maxL) hn
  rw [lg_entry_eq]
  refine body p e s m _ below meth c (va_A C s.heap.size) _ ⟨hx, hb, hml, hown, hts⟩ hE hK hP hD hA ?_ _ hl
  intro H locs pc ls hP9 hD9 hS hdg
  exact W.vret hx hb hr (fun t ht hW => ⟨⟨(), rfl, trivial, by rw [ht]; exact hP9, hD9⟩, hS.F ht⟩) hS.2.2 hdg
def MqE (l : Launch) (y : MethodName) (ws : List Cond) (rm : Room) (D : va_G) (tys : List (ClassId × FieldType)) (av : List Value) (C C' : va_W) (r : Option Nat) (adK adV : Nat → Nat) (fm : Nat) : Prop := ∀ sz, Met l y ws rm (va_Pc av (kPE D tys C sz adK adV fm)) (va_Qq (fun (r' : Option Nat) (_ : Unit) => r' = r) (fun _ t => va_P D vwCl C' t.heap ∧ va_D (va_A C sz) C') (va_A C sz)) 0 0 (va_A C sz)
theorem MqE.mk {l : Launch} {y : MethodName} {ws ws' : List Cond} {rm : Room} {D : va_G} {tys : List (ClassId × FieldType)} {av : List Value} {C C' : va_W} {r : Option Nat} {cc : ByteArray} {maxL : Nat} {adK adV : Nat → Nat} {fm : Nat} {rt own : String}
    (hy : plainName y.cls = true) (hw : ws = Cond.code y cc maxL (some (.object rt)) :: ws') (ho : y.cls = own) (hn : (lg_sl av).length ≤ maxL)
    (body : ∀ (p : Program) (e : Env) (s : State) (m : MethodId) (args : Array Value) (below : List Frame) (meth : Method) (c : Code) (A : Nat → Prop) (Q : State → Prop),
      CallFix p m c cc maxL s args ws own → kEnv A s s.heap adK adV fm → va_K D vwCl tys s → va_P D vwCl C s.heap → va_D A C → (∀ q : Nat, s.heap.size ≤ q → A q) →
      (∀ (v : Option Nat) (H : Heap) (locs : List Loc) (pc : Nat) (ls : Array Slot), va_P D vwCl C' H → va_D A C' → va_S A s.heap H locs → decode cc pc = .ok (.areturn, 1) → v = r → W p l e rm s m args below meth c H locs 0 0 Q (F0 m pc ls [va_rf v])) →
      ∀ (ls : Array Slot), lv_has ls maxL (lv_args 0 av) → W p l e rm s m args below meth c s.heap [] 0 0 Q (F0 m 0 ls [])) : MqE l y ws rm D tys av C C' r adK adV fm := by
  intro sz
  refine Met.ofW (cc := cc) (maxL := maxL) (ret := some (.object rt)) hy hw ?_
  intro p e s m args below meth c s₁ B hml hv
  obtain ⟨rfl, ⟨hsz, hP, hK, hD0⟩, hE⟩ := hv
  have hx := B.exec
  have hb := B.bytes
  have hr := B.returns
  have hts := atoms_spec (ws := ws) B.pre
  have hown : s.vm.findClass own = some m.cls := by rw [← ho]; exact findClass_of_methodNamed B.named
  have hlocks := B.notSynchronized
  subst hsz
  have hD := hD0.self (sz := s.heap.size)
  have hA : ∀ q : Nat, s.heap.size ≤ q → va_A C s.heap.size q := fun q h => Or.inr h
  have hl := lv_entry av (n := maxL) hn
  rw [lg_entry_eq]
  refine body p e s m _ below meth c (va_A C s.heap.size) _ ⟨hx, hb, hml, hown, hts⟩ hE hK hP hD hA ?_ _ hl
  intro v H locs pc ls hP9 hD9 hS hdg hv
  exact W.aret (v := va_rf v) hx hb hr (Or.inl ⟨_, rfl⟩) (va_rf_or v) (fun t ht hW => ⟨⟨v, (), rfl, hv, by rw [ht]; exact hP9, hD9⟩, hS.F ht⟩) hS.2.2 hdg
section KCEW
variable {p : Program} {l : Launch} {e : Env} {R : Room} {s : State} {m : MethodId} {args : Array Value} {below : List Frame} {meth : Method} {c : Code} {H : Heap} {locs : List Loc} {Q : State → Prop}
variable {cc : ByteArray} {pc nL : Nat} {ls : Array Slot} {rest st : List Value} {D : va_G} {A : Nat → Prop} {tys : List (ClassId × FieldType)} {ws : va_W} {lv : List (Nat × Value)} {Ts : List Cond} {own : String}
variable {adK adV : Nat → Nat} {fm : Nat}
theorem k_preE (hE : kEnv A s s.heap adK adV fm) (hS : va_S A s.heap H locs) (hK : va_K D vwCl tys s) (hP : va_P D vwCl ws H) (hD : va_D A ws) {av : List Value} {isC : List Nat} {wc : va_W} (hC : isC.map (fun i => ws[i]?) = wc.map some) (hn : va_nd isC = true) (hF : ∀ q, va_A wc H.size q → A q) : ∀ U : State, U.heap = H → s.WarmedH U.vm → va_Pc av (kPE D tys wc H.size adK adV fm) av.toArray U := fun U hU hW =>
  ⟨rfl, (k_pre (av := av) hK hP hD hC hn U hU hW).2, by rw [hU]; exact hE.to hS hF hW⟩
theorem clE_Vi {y : MethodName} {wy : List Cond} {rm : Room} {index n maxL : Nat} {bytes : ByteArray} {ret : Option FieldType} {C : String} {b : Nat} {As : List Value} {wc w1 : va_W} {r : Int32}
    (F : CallFix p m c cc nL s args Ts own) (hE : kEnv A s s.heap adK adV fm) (hK : va_K D vwCl tys s) (hP : va_P D vwCl ws H) (hD : va_D A ws) (hS : va_S A s.heap H locs) (hA : ∀ q : Nat, s.heap.size ≤ q → A q) (hl : lv_has ls nL lv)
    (hM : MiE l y wy rm D tys (.ref b :: As) wc w1 r adK adV fm) (cw : CallW R s args own C index y bytes maxL ret wy rm 0 0 n) (isC isR ps : List Nat) (W1 : va_W)
    (hrec : ∃ cell : Cell, H[b]? = some cell ∧ cell.vm.isStatics = false ∧ s.vm.findClass C = some cell.cls) (hC : isC.map (fun i => ws[i]?) = wc.map some) (hR : w1.length = isC.length) (hps : k_mix isR ws w1 = W1)
    (hn : va_nd isC = true ∧ k_ok 0 isC isR = true) (hlen : As.length = n) (hst : st = As.reverse ++ .ref b :: rest) (hrest : (rest.map fun v => v.category).sum ≤ 8) (hroom : 0 ≤ R.cells ∧ 0 ≤ R.slots) (hdg : decode cc pc = .ok (.invokevirtual index, 3))
    (kk : ∀ (H1 : Heap) (locs1 : List Loc), va_P D vwCl W1 H1 → va_D A W1 → va_S A s.heap H1 locs1 → W p l e R s m args below meth c H1 locs1 0 0 Q (F0 m (pc + 3) ls (.int r :: rest))) : W p l e R s m args below meth c H locs 0 0 Q (F0 m pc ls st) := by
  subst hst
  have hFc := va_free (wc := wc) hD hS hA isC hC
  refine va_calli (va_runV (As := As) (rest := rest) F (hM H.size) cw ⟨kPE_blind, hrec, k_preE hE hS hK hP hD hC hn.1 hFc⟩ rfl hlen hl.1 rfl (lv_room hrest) hdg hroom) hS (fun q _ h => hFc q h) hFc (fun r1 u t H1 locs1 ht hvm hw hB hz1 hk1 hS => ?_)
  obtain ⟨hP1, hD1⟩ := hB
  rw [ht] at hP1
  obtain ⟨hP, hD⟩ := k_joinP hP hD isC isR hC hR hps hn.2 hk1 hFc hP1 hD1
  have hw : r1 = r := hw
  subst hw
  exact kk H1 locs1 hP hD hS
theorem clE_Vv {y : MethodName} {wy : List Cond} {rm : Room} {index n maxL : Nat} {bytes : ByteArray} {ret : Option FieldType} {C : String} {b : Nat} {As : List Value} {wc w1 : va_W}
    (F : CallFix p m c cc nL s args Ts own) (hE : kEnv A s s.heap adK adV fm) (hK : va_K D vwCl tys s) (hP : va_P D vwCl ws H) (hD : va_D A ws) (hS : va_S A s.heap H locs) (hA : ∀ q : Nat, s.heap.size ≤ q → A q) (hl : lv_has ls nL lv)
    (hM : MvE l y wy rm D tys (.ref b :: As) wc w1 adK adV fm) (cw : CallW R s args own C index y bytes maxL ret wy rm 0 0 n) (isC isR ps : List Nat) (W1 : va_W)
    (hrec : ∃ cell : Cell, H[b]? = some cell ∧ cell.vm.isStatics = false ∧ s.vm.findClass C = some cell.cls) (hC : isC.map (fun i => ws[i]?) = wc.map some) (hR : w1.length = isC.length) (hps : k_mix isR ws w1 = W1)
    (hn : va_nd isC = true ∧ k_ok 0 isC isR = true) (hlen : As.length = n) (hst : st = As.reverse ++ .ref b :: rest) (hrest : (rest.map fun v => v.category).sum ≤ 8) (hroom : 0 ≤ R.cells ∧ 0 ≤ R.slots) (hdg : decode cc pc = .ok (.invokevirtual index, 3))
    (kk : ∀ (H1 : Heap) (locs1 : List Loc), va_P D vwCl W1 H1 → va_D A W1 → va_S A s.heap H1 locs1 → W p l e R s m args below meth c H1 locs1 0 0 Q (F0 m (pc + 3) ls rest)) : W p l e R s m args below meth c H locs 0 0 Q (F0 m pc ls st) := by
  subst hst
  have hFc := va_free (wc := wc) hD hS hA isC hC
  refine va_callv (va_runV (As := As) (rest := rest) F (hM H.size) cw ⟨kPE_blind, hrec, k_preE hE hS hK hP hD hC hn.1 hFc⟩ rfl hlen hl.1 rfl (lv_room hrest) hdg hroom) hS (fun q _ h => hFc q h) hFc (fun u t H1 locs1 ht hvm hw hB hz1 hk1 hS => ?_)
  obtain ⟨hP1, hD1⟩ := hB
  rw [ht] at hP1
  obtain ⟨hP, hD⟩ := k_joinP hP hD isC isR hC hR hps hn.2 hk1 hFc hP1 hD1
  exact kk H1 locs1 hP hD hS
theorem clE_Si {y : MethodName} {wy : List Cond} {rm : Room} {index n maxL : Nat} {bytes : ByteArray} {ret : Option FieldType} {As : List Value} {wc w1 : va_W} {r : Int32}
    (F : CallFix p m c cc nL s args Ts own) (hE : kEnv A s s.heap adK adV fm) (hK : va_K D vwCl tys s) (hP : va_P D vwCl ws H) (hD : va_D A ws) (hS : va_S A s.heap H locs) (hA : ∀ q : Nat, s.heap.size ≤ q → A q) (hl : lv_has ls nL lv)
    (hM : MiE l y wy rm D tys As wc w1 r adK adV fm) (cw : CallB R s args own index y bytes maxL ret wy rm 0 0 n ∧ (Cond.static y).before args s = true) (isC isR ps : List Nat) (W1 : va_W)
    (hC : isC.map (fun i => ws[i]?) = wc.map some) (hR : w1.length = isC.length) (hps : k_mix isR ws w1 = W1)
    (hn : va_nd isC = true ∧ k_ok 0 isC isR = true) (hlen : As.length = n) (hst : st = As.reverse ++ rest) (hrest : (rest.map fun v => v.category).sum ≤ 8) (hroom : 0 ≤ R.cells ∧ 0 ≤ R.slots) (hdg : decode cc pc = .ok (.invokestatic index, 3))
    (kk : ∀ (H1 : Heap) (locs1 : List Loc), va_P D vwCl W1 H1 → va_D A W1 → va_S A s.heap H1 locs1 → W p l e R s m args below meth c H1 locs1 0 0 Q (F0 m (pc + 3) ls (.int r :: rest))) : W p l e R s m args below meth c H locs 0 0 Q (F0 m pc ls st) := by
  subst hst
  have hFc := va_free (wc := wc) hD hS hA isC hC
  refine va_calli (va_runS (As := As) (rest := rest) F (hM H.size) cw ⟨kPE_blind, k_preE hE hS hK hP hD hC hn.1 hFc⟩ rfl hlen hl.1 rfl (lv_room hrest) hdg hroom) hS (fun q _ h => hFc q h) hFc (fun r1 u t H1 locs1 ht hvm hw hB hz1 hk1 hS => ?_)
  obtain ⟨hP1, hD1⟩ := hB
  rw [ht] at hP1
  obtain ⟨hP, hD⟩ := k_joinP hP hD isC isR hC hR hps hn.2 hk1 hFc hP1 hD1
  have hw : r1 = r := hw
  subst hw
  exact kk H1 locs1 hP hD hS
theorem clE_Sv {y : MethodName} {wy : List Cond} {rm : Room} {index n maxL : Nat} {bytes : ByteArray} {ret : Option FieldType} {As : List Value} {wc w1 : va_W}
    (F : CallFix p m c cc nL s args Ts own) (hE : kEnv A s s.heap adK adV fm) (hK : va_K D vwCl tys s) (hP : va_P D vwCl ws H) (hD : va_D A ws) (hS : va_S A s.heap H locs) (hA : ∀ q : Nat, s.heap.size ≤ q → A q) (hl : lv_has ls nL lv)
    (hM : MvE l y wy rm D tys As wc w1 adK adV fm) (cw : CallB R s args own index y bytes maxL ret wy rm 0 0 n ∧ (Cond.static y).before args s = true) (isC isR ps : List Nat) (W1 : va_W)
    (hC : isC.map (fun i => ws[i]?) = wc.map some) (hR : w1.length = isC.length) (hps : k_mix isR ws w1 = W1)
    (hn : va_nd isC = true ∧ k_ok 0 isC isR = true) (hlen : As.length = n) (hst : st = As.reverse ++ rest) (hrest : (rest.map fun v => v.category).sum ≤ 8) (hroom : 0 ≤ R.cells ∧ 0 ≤ R.slots) (hdg : decode cc pc = .ok (.invokestatic index, 3))
    (kk : ∀ (H1 : Heap) (locs1 : List Loc), va_P D vwCl W1 H1 → va_D A W1 → va_S A s.heap H1 locs1 → W p l e R s m args below meth c H1 locs1 0 0 Q (F0 m (pc + 3) ls rest)) : W p l e R s m args below meth c H locs 0 0 Q (F0 m pc ls st) := by
  subst hst
  have hFc := va_free (wc := wc) hD hS hA isC hC
  refine va_callv (va_runS (As := As) (rest := rest) F (hM H.size) cw ⟨kPE_blind, k_preE hE hS hK hP hD hC hn.1 hFc⟩ rfl hlen hl.1 rfl (lv_room hrest) hdg hroom) hS (fun q _ h => hFc q h) hFc (fun u t H1 locs1 ht hvm hw hB hz1 hk1 hS => ?_)
  obtain ⟨hP1, hD1⟩ := hB
  rw [ht] at hP1
  obtain ⟨hP, hD⟩ := k_joinP hP hD isC isR hC hR hps hn.2 hk1 hFc hP1 hD1
  exact kk H1 locs1 hP hD hS
theorem clE_Vq {y : MethodName} {wy : List Cond} {rm : Room} {index n maxL : Nat} {bytes : ByteArray} {ret : Option FieldType} {C : String} {b : Nat} {As : List Value} {wc w1 : va_W} {r : Option Nat}
    (F : CallFix p m c cc nL s args Ts own) (hE : kEnv A s s.heap adK adV fm) (hK : va_K D vwCl tys s) (hP : va_P D vwCl ws H) (hD : va_D A ws) (hS : va_S A s.heap H locs) (hA : ∀ q : Nat, s.heap.size ≤ q → A q) (hl : lv_has ls nL lv)
    (hM : MqE l y wy rm D tys (.ref b :: As) wc w1 r adK adV fm) (cw : CallW R s args own C index y bytes maxL ret wy rm 0 0 n) (isC isR ps : List Nat) (W1 : va_W)
    (hrec : ∃ cell : Cell, H[b]? = some cell ∧ cell.vm.isStatics = false ∧ s.vm.findClass C = some cell.cls) (hC : isC.map (fun i => ws[i]?) = wc.map some) (hR : w1.length = isC.length) (hps : k_mix isR ws w1 = W1)
    (hn : va_nd isC = true ∧ k_ok 0 isC isR = true) (hlen : As.length = n) (hst : st = As.reverse ++ .ref b :: rest) (hrest : (rest.map fun v => v.category).sum ≤ 8) (hroom : 0 ≤ R.cells ∧ 0 ≤ R.slots) (hdg : decode cc pc = .ok (.invokevirtual index, 3))
    (kk : ∀ (H1 : Heap) (locs1 : List Loc), va_P D vwCl W1 H1 → va_D A W1 → va_S A s.heap H1 locs1 → W p l e R s m args below meth c H1 locs1 0 0 Q (F0 m (pc + 3) ls (va_rf r :: rest))) : W p l e R s m args below meth c H locs 0 0 Q (F0 m pc ls st) := by
  subst hst
  have hFc := va_free (wc := wc) hD hS hA isC hC
  refine va_callq (va_runV (As := As) (rest := rest) F (hM H.size) cw ⟨kPE_blind, hrec, k_preE hE hS hK hP hD hC hn.1 hFc⟩ rfl hlen hl.1 rfl (lv_room hrest) hdg hroom) hS (fun q _ h => hFc q h) hFc (fun r1 u t H1 locs1 ht hvm hw hB hz1 hk1 hS => ?_)
  obtain ⟨hP1, hD1⟩ := hB
  rw [ht] at hP1
  obtain ⟨hP, hD⟩ := k_joinP hP hD isC isR hC hR hps hn.2 hk1 hFc hP1 hD1
  have hw : r1 = r := hw
  subst hw
  exact kk H1 locs1 hP hD hS
theorem clE_Sq {y : MethodName} {wy : List Cond} {rm : Room} {index n maxL : Nat} {bytes : ByteArray} {ret : Option FieldType} {As : List Value} {wc w1 : va_W} {r : Option Nat}
    (F : CallFix p m c cc nL s args Ts own) (hE : kEnv A s s.heap adK adV fm) (hK : va_K D vwCl tys s) (hP : va_P D vwCl ws H) (hD : va_D A ws) (hS : va_S A s.heap H locs) (hA : ∀ q : Nat, s.heap.size ≤ q → A q) (hl : lv_has ls nL lv)
    (hM : MqE l y wy rm D tys As wc w1 r adK adV fm) (cw : CallB R s args own index y bytes maxL ret wy rm 0 0 n ∧ (Cond.static y).before args s = true) (isC isR ps : List Nat) (W1 : va_W)
    (hC : isC.map (fun i => ws[i]?) = wc.map some) (hR : w1.length = isC.length) (hps : k_mix isR ws w1 = W1)
    (hn : va_nd isC = true ∧ k_ok 0 isC isR = true) (hlen : As.length = n) (hst : st = As.reverse ++ rest) (hrest : (rest.map fun v => v.category).sum ≤ 8) (hroom : 0 ≤ R.cells ∧ 0 ≤ R.slots) (hdg : decode cc pc = .ok (.invokestatic index, 3))
    (kk : ∀ (H1 : Heap) (locs1 : List Loc), va_P D vwCl W1 H1 → va_D A W1 → va_S A s.heap H1 locs1 → W p l e R s m args below meth c H1 locs1 0 0 Q (F0 m (pc + 3) ls (va_rf r :: rest))) : W p l e R s m args below meth c H locs 0 0 Q (F0 m pc ls st) := by
  subst hst
  have hFc := va_free (wc := wc) hD hS hA isC hC
  refine va_callq (va_runS (As := As) (rest := rest) F (hM H.size) cw ⟨kPE_blind, k_preE hE hS hK hP hD hC hn.1 hFc⟩ rfl hlen hl.1 rfl (lv_room hrest) hdg hroom) hS (fun q _ h => hFc q h) hFc (fun r1 u t H1 locs1 ht hvm hw hB hz1 hk1 hS => ?_)
  obtain ⟨hP1, hD1⟩ := hB
  rw [ht] at hP1
  obtain ⟨hP, hD⟩ := k_joinP hP hD isC isR hC hR hps hn.2 hk1 hFc hP1 hD1
  have hw : r1 = r := hw
  subst hw
  exact kk H1 locs1 hP hD hS
end KCEW
