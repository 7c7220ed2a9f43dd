/-! ===== methods that answer a reference or null; the four sheets ===== -/
def Mq (l : Launch) (y : MethodName) (ws : List Cond) (rm : Room) (D : va_G) (tys : List (ClassId × FieldType)) (av : List Value) (C C' : va_W) (r : Option Nat) : Prop := ∀ sz, Met l y ws rm (va_Pc av (kP D tys C sz)) (va_Qq (fun (r' : Option Nat) (_ : Unit) => r' = r) (fun _ t => va_P D vwCl C' t.heap ∧ va_D (va_A C sz) C') (va_A C sz)) 0 0 (va_A C sz)
theorem Mq.mk {l : Launch} {y : MethodName} {ws ws' : List Cond} {rm : Room} {D : va_G} {tys : List (ClassId × FieldType)} {av : List Value} {C C' : va_W} {r : Option Nat} {cc : ByteArray} {maxL : Nat} {rt own : String}
    (hy : plainName y.cls = true) (hw : ws = Cond.code y cc maxL (some (.object rt)) :: ws') (ho : y.cls = own) (hn : (lg_sl av).length ≤ maxL)
    (body : ∀ (p : Program) (e : Env) (s : State) (m : MethodId) (args : Array Value) (below : List Frame) (meth : Method) (c : Code) (A : Nat → Prop) (Q : State → Prop),
      CallFix p m c cc maxL s args ws own → va_K D vwCl tys s → va_P D vwCl C s.heap → va_D A C → (∀ q : Nat, s.heap.size ≤ q → A q) →
      (∀ (v : Option Nat) (H : Heap) (locs : List Loc) (pc : Nat) (ls : Array Slot), va_P D vwCl C' H → va_D A C' → va_S A s.heap H locs → decode cc pc = .ok (.areturn, 1) → v = r → W p l e rm s m args below meth c H locs 0 0 Q (F0 m pc ls [va_rf v])) →
      ∀ (ls : Array Slot), lv_has ls maxL (lv_args 0 av) → W p l e rm s m args below meth c s.heap [] 0 0 Q (F0 m 0 ls [])) : Mq l y ws rm D tys av C C' r := by
  intro sz
  refine Met.ofW (cc := cc) (maxL := maxL) (ret := some (.object rt)) hy hw ?_
  intro p e s m args below meth c s₁ B hml hv
  obtain ⟨rfl, hsz, hP, hK, hD0⟩ := hv
  have hx := B.exec
  have hb := B.bytes
  have hr := B.returns
  have hts := atoms_spec (ws := ws) B.pre
  have hown : s.vm.findClass own = some m.cls := by rw [← ho]; exact findClass_of_methodNamed B.named
  have hlocks := B.notSynchronized
  subst hsz
  have hD := hD0.self (sz := s.heap.size)
  have hA : ∀ q : Nat, s.heap.size ≤ q → va_A C s.heap.size q := fun q h => Or.inr h
  have hl := lv_entry av (n := maxL) hn
  rw [lg_entry_eq]
  refine body p e s m _ below meth c (va_A C s.heap.size) _ ⟨hx, hb, hml, hown, hts⟩ hK hP hD hA ?_ _ hl
  intro v H locs pc ls hP9 hD9 hS hdg hv
  exact W.aret (v := va_rf v) hx hb hr (Or.inl ⟨_, rfl⟩) (va_rf_or v) (fun t ht hW => ⟨⟨v, (), rfl, hv, by rw [ht]; exact hP9, hD9⟩, hS.F ht⟩) hS.2.2 hdg
section KCQ
variable {p : Program} {l : Launch} {e : Env} {R : Room} {s : State} {m : MethodId} {args : Array Value} {below : List Frame} {meth : Method} {c : Code} {H : Heap} {locs : List Loc} {Q : State → Prop}
variable {cc : ByteArray} {pc nL : Nat} {ls : Array Slot} {rest st : List Value} {D : va_G} {A : Nat → Prop} {tys : List (ClassId × FieldType)} {ws : va_W} {lv : List (Nat × Value)} {Ts : List Cond} {own : String}
theorem cl_Vq {y : MethodName} {wy : List Cond} {rm : Room} {index n maxL ci : Nat} {bytes : ByteArray} {ret : Option FieldType} {C : String} {T : u_T} {N : Nat} {fs : List Value} {b : Nat} {As : List Value} {wc w1 : va_W} {r : Option Nat}
    (F : CallFix p m c cc nL s args Ts own) (hK : va_K D vwCl tys s) (hP : va_P D vwCl ws H) (hD : va_D A ws) (hS : va_S A s.heap H locs) (hA : ∀ q : Nat, s.heap.size ≤ q → A q) (hl : lv_has ls nL lv)
    (hM : Mq l y wy rm D tys (.ref b :: As) wc w1 r) (cw : CallW R s args own C index y bytes maxL ret wy rm 0 0 n) (q0 : Nat) (isC isR ps : List Nat) (W1 : va_W)
    (hrec : ws[q0]? = some (b, .inr (ci, fs))) (hcl : vwCl[ci]? = some (C, T, N)) (hC : isC.map (fun i => ws[i]?) = wc.map some) (hR : w1.length = isC.length) (hps : k_mix isR ws w1 = W1)
    (hn : va_nd isC = true ∧ k_ok 0 isC isR = true) (hlen : As.length = n) (hst : st = As.reverse ++ .ref b :: rest) (hrest : (rest.map fun v => v.category).sum ≤ 8) (hroom : 0 ≤ R.cells ∧ 0 ≤ R.slots) (hdg : decode cc pc = .ok (.invokevirtual index, 3))
    (kk : ∀ (H1 : Heap) (locs1 : List Loc), va_P D vwCl W1 H1 → va_D A W1 → va_S A s.heap H1 locs1 → W p l e R s m args below meth c H1 locs1 0 0 Q (F0 m (pc + 3) ls (va_rf r :: rest))) : W p l e R s m args below meth c H locs 0 0 Q (F0 m pc ls st) := by
  subst hst
  have hFc := va_free (wc := wc) hD hS hA isC hC
  refine va_callq (va_runV (As := As) (rest := rest) F (hM H.size) cw ⟨kP_blind, va_recv hK hP (q := (C, T, N)) hcl hrec, k_pre hK hP hD hC hn.1⟩ rfl hlen hl.1 rfl (lv_room hrest) hdg hroom) hS (fun q _ h => hFc q h) hFc (fun r1 u t H1 locs1 ht hvm hw hB hz1 hk1 hS => ?_)
  obtain ⟨hP1, hD1⟩ := hB
  rw [ht] at hP1
  obtain ⟨hP, hD⟩ := k_joinP hP hD isC isR hC hR hps hn.2 hk1 hFc hP1 hD1
  have hw : r1 = r := hw
  subst hw
  exact kk H1 locs1 hP hD hS
end KCQ
def k_sh (a0 a1 a2 a3 : Nat) : Nat → Option Nat := fun j => match j with
  | 0 => some a0
  | 1 => some a1
  | 2 => some a2
  | _ => some a3
def k_shR (x : Int32) (a0 a1 a2 a3 : Nat) (r : Option Nat) : Prop := (x = 0 ∧ r = some a0) ∨ (x = 1 ∧ r = some a1) ∨ (x = 2 ∧ r = some a2) ∨ (x = 3 ∧ r = some a3) ∨ (¬ k_sheet x ∧ r = none)
