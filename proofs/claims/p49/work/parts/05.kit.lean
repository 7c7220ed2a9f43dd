/-! ===== worlds and contracts in short ===== -/
abbrev tyA (cyI cyJ cyZ cyB cyO : ClassId) : List (ClassId × FieldType) := [(cyI, .int), (cyJ, .long), (cyZ, .boolean), (cyB, .boolean), (cyO, .object "ThirdFountain$Sheet")]
def kP (D : va_G) (tys : List (ClassId × FieldType)) (C : va_W) (sz : Nat) : State → Prop := fun U => U.heap.size = sz ∧ va_P D vwCl C U.heap ∧ va_K D vwCl tys U ∧ va_D (fun _ => True) C
theorem kP_blind {D : va_G} {tys : List (ClassId × FieldType)} {C : va_W} {sz : Nat} {av : List Value} : FrameBlind (va_Pc av (kP D tys C sz)) := fun a U g mk q => by
  obtain ⟨q0, q1, qP, qK, qD⟩ := q
  exact ⟨q0, q1, qP, va_K.moved (u := U) (U := U.calling g mk a) (Vm.Alike.refl U.vm) qK, qD⟩
def Mi (l : Launch) (y : MethodName) (ws : List Cond) (rm : Room) (D : va_G) (tys : List (ClassId × FieldType)) (av : List Value) (C C' : va_W) (r : Int32) : Prop := ∀ sz, Met l y ws rm (va_Pc av (kP D tys C sz)) (va_Qi (fun (r' : Int32) (_ : Unit) => r' = r) (fun _ t => va_P D vwCl C' t.heap ∧ va_D (va_A C sz) C') (va_A C sz)) 0 0 (va_A C sz)
def Ml (l : Launch) (y : MethodName) (ws : List Cond) (rm : Room) (D : va_G) (tys : List (ClassId × FieldType)) (av : List Value) (C C' : va_W) (r : Int64) : Prop := ∀ sz, Met l y ws rm (va_Pc av (kP D tys C sz)) (va_Ql (fun (r' : Int64) (_ : Unit) => r' = r) (fun _ t => va_P D vwCl C' t.heap ∧ va_D (va_A C sz) C') (va_A C sz)) 0 0 (va_A C sz)
def Mv (l : Launch) (y : MethodName) (ws : List Cond) (rm : Room) (D : va_G) (tys : List (ClassId × FieldType)) (av : List Value) (C C' : va_W) : Prop := ∀ sz, Met l y ws rm (va_Pc av (kP D tys C sz)) (va_Qv (fun (_ : Unit) => True) (fun _ t => va_P D vwCl C' t.heap ∧ va_D (va_A C sz) C') (va_A C sz)) 0 0 (va_A C sz)
theorem Mi.mk {l : Launch} {y : MethodName} {ws ws' : List Cond} {rm : Room} {D : va_G} {tys : List (ClassId × FieldType)} {av : List Value} {C C' : va_W} {r : Int32} {cc : ByteArray} {maxL : Nat} {rt : FieldType} {own : String}
    (hy : plainName y.cls = true) (hw : ws = Cond.code y cc maxL (some rt) :: ws') (ho : y.cls = own) (hn : (lg_sl av).length ≤ maxL)
    (body : ∀ (p : Program) (e : Env) (s : State) (m : MethodId) (args : Array Value) (below : List Frame) (meth : Method) (c : Code) (A : Nat → Prop) (Q : State → Prop),
      CallFix p m c cc maxL s args ws own → va_K D vwCl tys s → va_P D vwCl C s.heap → va_D A C → (∀ q : Nat, s.heap.size ≤ q → A q) →
      (∀ (v : Int32) (H : Heap) (locs : List Loc) (pc : Nat) (ls : Array Slot), va_P D vwCl C' H → va_D A C' → va_S A s.heap H locs → decode cc pc = .ok (.ireturn, 1) → narrow rt (.int v) = .int v → v = r → W p l e rm s m args below meth c H locs 0 0 Q (F0 m pc ls [.int v])) →
      ∀ (ls : Array Slot), lv_has ls maxL (lv_args 0 av) → W p l e rm s m args below meth c s.heap [] 0 0 Q (F0 m 0 ls [])) : Mi l y ws rm D tys av C C' r := by
  intro sz
  refine Met.ofW (cc := cc) (maxL := maxL) (ret := some rt) hy hw ?_
  intro p e s m args below meth c s₁ B hml hv
  obtain ⟨rfl, hsz, hP, hK, hD0⟩ := hv
  have hx := B.exec
  have hb := B.bytes
  have hr := B.returns
  have hts := atoms_spec (ws := ws) B.pre
  have hown : s.vm.findClass own = some m.cls := by rw [← ho]; exact findClass_of_methodNamed B.named
  have hlocks := B.notSynchronized
  subst hsz
  have hD := hD0.self (sz := s.heap.size)
  have hA : ∀ q : Nat, s.heap.size ≤ q → va_A C s.heap.size q := fun q h => Or.inr h
  have hl := lv_entry av (n := maxL) hn
  rw [lg_entry_eq]
  refine body p e s m _ below meth c (va_A C s.heap.size) _ ⟨hx, hb, hml, hown, hts⟩ hK hP hD hA ?_ _ hl
  intro v H locs pc ls hP9 hD9 hS hdg hnr hv
  exact W.zret (v := v) hx hb hr hnr (fun t ht hW => ⟨⟨v, (), rfl, hv, by rw [ht]; exact hP9, hD9⟩, hS.F ht⟩) hS.2.2 hdg
theorem Ml.mk {l : Launch} {y : MethodName} {ws ws' : List Cond} {rm : Room} {D : va_G} {tys : List (ClassId × FieldType)} {av : List Value} {C C' : va_W} {r : Int64} {cc : ByteArray} {maxL : Nat} {own : String}
    (hy : plainName y.cls = true) (hw : ws = Cond.code y cc maxL (some .long) :: ws') (ho : y.cls = own) (hn : (lg_sl av).length ≤ maxL)
    (body : ∀ (p : Program) (e : Env) (s : State) (m : MethodId) (args : Array Value) (below : List Frame) (meth : Method) (c : Code) (A : Nat → Prop) (Q : State → Prop),
      CallFix p m c cc maxL s args ws own → va_K D vwCl tys s → va_P D vwCl C s.heap → va_D A C → (∀ q : Nat, s.heap.size ≤ q → A q) →
      (∀ (v : Int64) (H : Heap) (locs : List Loc) (pc : Nat) (ls : Array Slot), va_P D vwCl C' H → va_D A C' → va_S A s.heap H locs → decode cc pc = .ok (.lreturn, 1) → v = r → W p l e rm s m args below meth c H locs 0 0 Q (F0 m pc ls [.long v])) →
      ∀ (ls : Array Slot), lv_has ls maxL (lv_args 0 av) → W p l e rm s m args below meth c s.heap [] 0 0 Q (F0 m 0 ls [])) : Ml l y ws rm D tys av C C' r := by
  intro sz
  refine Met.ofW (cc := cc) (maxL := maxL) (ret := some .long) hy hw ?_
  intro p e s m args below meth c s₁ B hml hv
  obtain ⟨rfl, hsz, hP, hK, hD0⟩ := hv
  have hx := B.exec
  have hb := B.bytes
  have hr := B.returns
  have hts := atoms_spec (ws := ws) B.pre
  have hown : s.vm.findClass own = some m.cls := by rw [← ho]; exact findClass_of_methodNamed B.named
  have hlocks := B.notSynchronized
  subst hsz
  have hD := hD0.self (sz := s.heap.size)
  have hA : ∀ q : Nat, s.heap.size ≤ q → va_A C s.heap.size q := fun q h => Or.inr h
  have hl := lv_entry av (n := maxL) hn
  rw [lg_entry_eq]
  refine body p e s m _ below meth c (va_A C s.heap.size) _ ⟨hx, hb, hml, hown, hts⟩ hK hP hD hA ?_ _ hl
  intro v H locs pc ls hP9 hD9 hS hdg hv
  exact W.lret (v := v) hx hb hr (fun t ht hW => ⟨⟨v, (), rfl, hv, by rw [ht]; exact hP9, hD9⟩, hS.F ht⟩) hS.2.2 hdg
theorem Mv.mk {l : Launch} {y : MethodName} {ws ws' : List Cond} {rm : Room} {D : va_G} {tys : List (ClassId × FieldType)} {av : List Value} {C C' : va_W} {cc : ByteArray} {maxL : Nat} {own : String}
    (hy : plainName y.cls = true) (hw : ws = Cond.code y cc maxL none :: ws') (ho : y.cls = own) (hn : (lg_sl av).length ≤ maxL)
    (body : ∀ (p : Program) (e : Env) (s : State) (m : MethodId) (args : Array Value) (below : List Frame) (meth : Method) (c : Code) (A : Nat → Prop) (Q : State → Prop),
      CallFix p m c cc maxL s args ws own → va_K D vwCl tys s → va_P D vwCl C s.heap → va_D A C → (∀ q : Nat, s.heap.size ≤ q → A q) →
      (∀ (H : Heap) (locs : List Loc) (pc : Nat) (ls : Array Slot), va_P D vwCl C' H → va_D A C' → va_S A s.heap H locs → decode cc pc = .ok (.return_, 1) → W p l e rm s m args below meth c H locs 0 0 Q (F0 m pc ls [])) →
      ∀ (ls : Array Slot), lv_has ls maxL (lv_args 0 av) → W p l e rm s m args below meth c s.heap [] 0 0 Q (F0 m 0 ls [])) : Mv l y ws rm D tys av C C' := by
  intro sz
  refine Met.ofW (cc := cc) (maxL := maxL) (ret := none) hy hw ?_
  intro p e s m args below meth c s₁ B hml hv
  obtain ⟨rfl, hsz, hP, hK, hD0⟩ := hv
  have hx := B.exec
  have hb := B.bytes
  have hr := B.returns
  have hts := atoms_spec (ws := ws) B.pre
  have hown : s.vm.findClass own = some m.cls := by rw [← ho]; exact findClass_of_methodNamed B.named
  have hlocks := B.notSynchronized
  subst hsz
  have hD := hD0.self (sz := s.heap.size)
  have hA : ∀ q : Nat, s.heap.size ≤ q → va_A C s.heap.size q := fun q h => Or.inr h
  have hl := lv_entry av (n := maxL) hn
  rw [lg_entry_eq]
  refine body p e s m _ below meth c (va_A C s.heap.size) _ ⟨hx, hb, hml, hown, hts⟩ hK hP hD hA ?_ _ hl
  intro H locs pc ls hP9 hD9 hS hdg
  exact W.vret hx hb hr (fun t ht hW => ⟨⟨(), rfl, trivial, by rw [ht]; exact hP9, hD9⟩, hS.F ht⟩) hS.2.2 hdg
/-! ===== calls ===== -/
theorem k_fm {α β : Type} (f : α → Option β) : ∀ (is : List α) (W : List β), is.map f = W.map some → is.filterMap f = W
  | [], [], _ => rfl
  | [], _ :: _, h => by cases h
  | _ :: _, [], h => by cases h
  | i :: is, w :: W, h => by
    have h1 : f i = some w := (List.cons.inj h).1
    have h2 := k_fm f is W (List.cons.inj h).2
    rw [List.filterMap_cons_some h1, h2]
theorem k_join {A0 : Nat → Prop} {D : va_G} {ws wc wr w1 W1 : va_W} {H H1 : Heap} (hP : va_P D vwCl ws H) (hD : va_D A0 ws) (isC isR ps : List Nat) (hC : isC.map (fun i => ws[i]?) = wc.map some) (hR : isR.map (fun i => ws[i]?) = wr.map some) (hps : ps.map (fun i => (wr ++ w1)[i]?) = W1.map some)
    (hn : va_nd isR = true ∧ va_nd ps = true ∧ (∀ i ∈ isR, i ∉ isC))
    (hk : ∀ q : Nat, q < H.size → ¬ va_A wc H.size q → H1[q]? = H[q]?) (hF : ∀ q, va_A wc H.size q → A0 q) (hP1 : va_P D vwCl w1 H1) (hD1 : va_D (va_A wc H.size) w1) : va_P D vwCl W1 H1 ∧ va_D A0 W1 := by
  obtain ⟨hP2, hD2⟩ := va_join hP hD isC isR hC hR hn.1 hn.2.2 hk hF hP1 hD1
  exact ⟨hP2.sub ps (k_fm _ _ _ hps), hD2.sub ps hn.2.1 hps⟩
/-- the place j of a list, or x -/
def k_get : va_W → Nat → (Nat × va_E) → (Nat × va_E)
  | [], _, x => x
  | c :: _, 0, _ => c
  | _ :: cs, j + 1, x => k_get cs j x
/-- the callee's cells, each in its caller's place: 0 stays, j + 1 is the callee's cell j -/
def k_mix : List Nat → va_W → va_W → va_W
  | 0 :: s, x :: xs, w1 => x :: k_mix s xs w1
  | (j + 1) :: s, x :: xs, w1 => k_get w1 j x :: k_mix s xs w1
  | _, _, _ => []
/-- src says of the places from c on what isC says -/
def k_ok : Nat → List Nat → List Nat → Bool
  | _, _, [] => true
  | c, isC, 0 :: s => !isC.contains c && k_ok (c + 1) isC s
  | c, isC, (j + 1) :: s => (match isC[j]? with | some i => Nat.beq i c | none => false) && k_ok (c + 1) isC s
theorem k_get_at : ∀ (w1 : va_W) (j : Nat) (x : Nat × va_E), j < w1.length → w1[j]? = some (k_get w1 j x)
  | [], j, x, h => absurd h (Nat.not_lt_zero j)
  | c :: cs, 0, x, h => rfl
  | c :: cs, j + 1, x, h => by
    rw [List.getElem?_cons_succ]
    exact k_get_at cs j x (Nat.lt_of_succ_lt_succ h)
theorem k_mix_at : ∀ (s : List Nat) (ws w1 : va_W) (k : Nat) (q : Nat × va_E), (k_mix s ws w1)[k]? = some q → (s[k]? = some 0 ∧ ws[k]? = some q) ∨ ∃ (j : Nat) (x : Nat × va_E), s[k]? = some (j + 1) ∧ q = k_get w1 j x
  | [], ws, w1, k, q, h => by cases ws <;> simp [k_mix] at h
  | v :: s, [], w1, k, q, h => by cases v <;> simp [k_mix] at h
  | 0 :: s, x :: xs, w1, 0, q, h => Or.inl ⟨rfl, h⟩
  | (j + 1) :: s, x :: xs, w1, 0, q, h => Or.inr ⟨j, x, rfl, (Option.some.inj h).symm⟩
  | 0 :: s, x :: xs, w1, k + 1, q, h => k_mix_at s xs w1 k q h
  | (j + 1) :: s, x :: xs, w1, k + 1, q, h => k_mix_at s xs w1 k q h
theorem k_ok_at : ∀ (s isC : List Nat) (c : Nat), k_ok c isC s = true → ∀ (k v : Nat), s[k]? = some v → (v = 0 → c + k ∉ isC) ∧ ∀ j, v = j + 1 → isC[j]? = some (c + k)
  | [], isC, c, h, k, v, hv => by cases hv
  | 0 :: s, isC, c, h, 0, v, hv => by
    have hv : 0 = v := Option.some.inj hv
    have h : (!isC.contains c && k_ok (c + 1) isC s) = true := h
    rw [Bool.and_eq_true] at h
    refine ⟨fun _ hm => ?_, fun j e => by omega⟩
    have := h.1
    rw [Nat.add_zero] at hm
    simp [hm] at this
  | (j + 1) :: s, isC, c, h, 0, v, hv => by
    have hv : j + 1 = v := Option.some.inj hv
    have h : ((match isC[j]? with | some i => Nat.beq i c | none => false) && k_ok (c + 1) isC s) = true := h
    rw [Bool.and_eq_true] at h
    refine ⟨fun e => by omega, fun j2 e => ?_⟩
    have e2 : j2 = j := by omega
    subst e2
    have h1 := h.1
    cases hi : isC[j2]? with
    | none => rw [hi] at h1; cases h1
    | some i =>
      rw [hi] at h1
      have : i = c := Nat.eq_of_beq_eq_true h1
      rw [this, Nat.add_zero]
  | 0 :: s, isC, c, h, k + 1, v, hv => by
    have h : (!isC.contains c && k_ok (c + 1) isC s) = true := h
    rw [Bool.and_eq_true] at h
    have := k_ok_at s isC (c + 1) h.2 k v hv
    rw [Nat.add_right_comm, Nat.add_assoc] at this
    exact this
  | (j + 1) :: s, isC, c, h, k + 1, v, hv => by
    have h : ((match isC[j]? with | some i => Nat.beq i c | none => false) && k_ok (c + 1) isC s) = true := h
    rw [Bool.and_eq_true] at h
    have := k_ok_at s isC (c + 1) h.2 k v hv
    rw [Nat.add_right_comm, Nat.add_assoc] at this
    exact this
theorem k_joinP {A0 : Nat → Prop} {D : va_G} {ws wc w1 W1 : va_W} {H H1 : Heap} (hP : va_P D vwCl ws H) (hD : va_D A0 ws) (isC isR : List Nat) (hC : isC.map (fun i => ws[i]?) = wc.map some) (hR : w1.length = isC.length) (hps : k_mix isR ws w1 = W1) (hn : k_ok 0 isC isR = true)
    (hk : ∀ q : Nat, q < H.size → ¬ va_A wc H.size q → H1[q]? = H[q]?) (hF : ∀ q, va_A wc H.size q → A0 q) (hP1 : va_P D vwCl w1 H1) (hD1 : va_D (va_A wc H.size) w1) : va_P D vwCl W1 H1 ∧ va_D A0 W1 := by
  subst hps
  have apart : ∀ (k : Nat) (q : Nat × va_E), k ∉ isC → ws[k]? = some q → q.1 < H.size ∧ ¬ va_A wc H.size q.1 := by
    intro k q hn h2
    have hl := (hP k q h2).lt
    refine ⟨hl, fun h => ?_⟩
    rcases h with ⟨k2, e, h⟩ | h
    · have h1 : (isC.map (fun i => ws[i]?))[k2]? = some (some (q.1, e)) := by rw [hC, List.getElem?_map, h]; rfl
      rw [List.getElem?_map] at h1
      cases hi : isC[k2]? with
      | none => rw [hi] at h1; cases h1
      | some i =>
        rw [hi] at h1
        have hij := hD.1 k i q (q.1, e) h2 (Option.some.inj h1) rfl
        subst hij
        exact hn (List.mem_of_getElem? hi)
    · exact absurd hl (Nat.not_lt.mpr h)
  have key : ∀ (k : Nat) (q : Nat × va_E), (k_mix isR ws w1)[k]? = some q → (k ∉ isC ∧ ws[k]? = some q) ∨ ∃ j : Nat, isC[j]? = some k ∧ w1[j]? = some q := by
    intro k q h
    rcases k_mix_at isR ws w1 k q h with ⟨h1, h2⟩ | ⟨j, x, h1, h2⟩
    · have := (k_ok_at isR isC 0 hn k 0 h1).1 rfl
      rw [Nat.zero_add] at this
      exact Or.inl ⟨this, h2⟩
    · have h3 := (k_ok_at isR isC 0 hn k (j + 1) h1).2 j rfl
      rw [Nat.zero_add] at h3
      have hj : j < w1.length := by rw [hR]; exact (List.getElem?_eq_some_iff.mp h3).1
      exact Or.inr ⟨j, h3, by rw [h2]; exact k_get_at w1 j x hj⟩
  refine ⟨fun k q h => ?_, fun i j x y hi hj hxy => ?_, fun k q h => ?_⟩
  · rcases key k q h with ⟨h1, h2⟩ | ⟨j, h1, h2⟩
    · obtain ⟨g1, g2⟩ := apart k q h1 h2
      exact (hP k q h2).kept (hk q.1 g1 g2)
    · exact hP1 j q h2
  · rcases key i x hi with ⟨h1, h2⟩ | ⟨a, h1, h2⟩ <;> rcases key j y hj with ⟨h3, h4⟩ | ⟨b, h3, h4⟩
    · exact hD.1 i j x y h2 h4 hxy
    · exact absurd (hxy ▸ hD1.2 b y h4 : va_A wc H.size x.1) (apart i x h1 h2).2
    · exact absurd (hxy ▸ hD1.2 a x h2 : va_A wc H.size y.1) (apart j y h3 h4).2
    · have e := hD1.1 a b x y h2 h4 hxy
      subst e
      exact Option.some.inj (h1.symm.trans h3)
  · rcases key k q h with ⟨h1, h2⟩ | ⟨j, h1, h2⟩
    · exact hD.2 k q h2
    · exact hF q.1 (hD1.2 j q h2)
section KC
variable {p : Program} {l : Launch} {e : Env} {R : Room} {s : State} {m : MethodId} {args : Array Value} {below : List Frame} {meth : Method} {c : Code} {H : Heap} {locs : List Loc} {Q : State → Prop}
variable {cc : ByteArray} {pc nL : Nat} {ls : Array Slot} {rest st : List Value} {D : va_G} {A : Nat → Prop} {tys : List (ClassId × FieldType)} {ws : va_W} {lv : List (Nat × Value)} {Ts : List Cond} {own : String}
theorem k_pre (hK : va_K D vwCl tys s) (hP : va_P D vwCl ws H) (hD : va_D A ws) {av : List Value} {isC : List Nat} {wc : va_W} (hC : isC.map (fun i => ws[i]?) = wc.map some) (hn : va_nd isC = true) : ∀ U : State, U.heap = H → s.WarmedH U.vm → va_Pc av (kP D tys wc H.size) av.toArray U := fun U hU hW =>
  ⟨rfl, by rw [hU], by rw [hU]; exact hP.sub isC (k_fm _ _ _ hC), va_K.moved hW.alike hK, (hD.sub isC hn hC).weaken (fun _ _ _ _ => trivial)⟩
theorem cl_Vi {y : MethodName} {wy : List Cond} {rm : Room} {index n maxL ci : Nat} {bytes : ByteArray} {ret : Option FieldType} {C : String} {T : u_T} {N : Nat} {fs : List Value} {b : Nat} {As : List Value} {wc w1 : va_W} {r : Int32}
    (F : CallFix p m c cc nL s args Ts own) (hK : va_K D vwCl tys s) (hP : va_P D vwCl ws H) (hD : va_D A ws) (hS : va_S A s.heap H locs) (hA : ∀ q : Nat, s.heap.size ≤ q → A q) (hl : lv_has ls nL lv)
    (hM : Mi l y wy rm D tys (.ref b :: As) wc w1 r) (cw : CallW R s args own C index y bytes maxL ret wy rm 0 0 n) (q0 : Nat) (isC isR ps : List Nat) (W1 : va_W)
    (hrec : ws[q0]? = some (b, .inr (ci, fs))) (hcl : vwCl[ci]? = some (C, T, N)) (hC : isC.map (fun i => ws[i]?) = wc.map some) (hR : w1.length = isC.length) (hps : k_mix isR ws w1 = W1)
    (hn : va_nd isC = true ∧ k_ok 0 isC isR = true) (hlen : As.length = n) (hst : st = As.reverse ++ .ref b :: rest) (hrest : (rest.map fun v => v.category).sum ≤ 8) (hroom : 0 ≤ R.cells ∧ 0 ≤ R.slots) (hdg : decode cc pc = .ok (.invokevirtual index, 3))
    (kk : ∀ (H1 : Heap) (locs1 : List Loc), va_P D vwCl W1 H1 → va_D A W1 → va_S A s.heap H1 locs1 → W p l e R s m args below meth c H1 locs1 0 0 Q (F0 m (pc + 3) ls (.int r :: rest))) : W p l e R s m args below meth c H locs 0 0 Q (F0 m pc ls st) := by
  subst hst
  have hFc := va_free (wc := wc) hD hS hA isC hC
  refine va_calli (va_runV (As := As) (rest := rest) F (hM H.size) cw ⟨kP_blind, va_recv hK hP (q := (C, T, N)) hcl hrec, k_pre hK hP hD hC hn.1⟩ rfl hlen hl.1 rfl (lv_room hrest) hdg hroom) hS (fun q _ h => hFc q h) hFc (fun r1 u t H1 locs1 ht hvm hw hB hz1 hk1 hS => ?_)
  obtain ⟨hP1, hD1⟩ := hB
  rw [ht] at hP1
  obtain ⟨hP, hD⟩ := k_joinP hP hD isC isR hC hR hps hn.2 hk1 hFc hP1 hD1
  have hw : r1 = r := hw
  subst hw
  exact kk H1 locs1 hP hD hS
theorem cl_Vl {y : MethodName} {wy : List Cond} {rm : Room} {index n maxL ci : Nat} {bytes : ByteArray} {ret : Option FieldType} {C : String} {T : u_T} {N : Nat} {fs : List Value} {b : Nat} {As : List Value} {wc w1 : va_W} {r : Int64}
    (F : CallFix p m c cc nL s args Ts own) (hK : va_K D vwCl tys s) (hP : va_P D vwCl ws H) (hD : va_D A ws) (hS : va_S A s.heap H locs) (hA : ∀ q : Nat, s.heap.size ≤ q → A q) (hl : lv_has ls nL lv)
    (hM : Ml l y wy rm D tys (.ref b :: As) wc w1 r) (cw : CallW R s args own C index y bytes maxL ret wy rm 0 0 n) (q0 : Nat) (isC isR ps : List Nat) (W1 : va_W)
    (hrec : ws[q0]? = some (b, .inr (ci, fs))) (hcl : vwCl[ci]? = some (C, T, N)) (hC : isC.map (fun i => ws[i]?) = wc.map some) (hR : w1.length = isC.length) (hps : k_mix isR ws w1 = W1)
    (hn : va_nd isC = true ∧ k_ok 0 isC isR = true) (hlen : As.length = n) (hst : st = As.reverse ++ .ref b :: rest) (hrest : (rest.map fun v => v.category).sum ≤ 8) (hroom : 0 ≤ R.cells ∧ 0 ≤ R.slots) (hdg : decode cc pc = .ok (.invokevirtual index, 3))
    (kk : ∀ (H1 : Heap) (locs1 : List Loc), va_P D vwCl W1 H1 → va_D A W1 → va_S A s.heap H1 locs1 → W p l e R s m args below meth c H1 locs1 0 0 Q (F0 m (pc + 3) ls (.long r :: rest))) : W p l e R s m args below meth c H locs 0 0 Q (F0 m pc ls st) := by
  subst hst
  have hFc := va_free (wc := wc) hD hS hA isC hC
  refine va_calll (va_runV (As := As) (rest := rest) F (hM H.size) cw ⟨kP_blind, va_recv hK hP (q := (C, T, N)) hcl hrec, k_pre hK hP hD hC hn.1⟩ rfl hlen hl.1 rfl (lv_room hrest) hdg hroom) hS (fun q _ h => hFc q h) hFc (fun r1 u t H1 locs1 ht hvm hw hB hz1 hk1 hS => ?_)
  obtain ⟨hP1, hD1⟩ := hB
  rw [ht] at hP1
  obtain ⟨hP, hD⟩ := k_joinP hP hD isC isR hC hR hps hn.2 hk1 hFc hP1 hD1
  have hw : r1 = r := hw
  subst hw
  exact kk H1 locs1 hP hD hS
theorem cl_Vv {y : MethodName} {wy : List Cond} {rm : Room} {index n maxL ci : Nat} {bytes : ByteArray} {ret : Option FieldType} {C : String} {T : u_T} {N : Nat} {fs : List Value} {b : Nat} {As : List Value} {wc w1 : va_W}
    (F : CallFix p m c cc nL s args Ts own) (hK : va_K D vwCl tys s) (hP : va_P D vwCl ws H) (hD : va_D A ws) (hS : va_S A s.heap H locs) (hA : ∀ q : Nat, s.heap.size ≤ q → A q) (hl : lv_has ls nL lv)
    (hM : Mv l y wy rm D tys (.ref b :: As) wc w1) (cw : CallW R s args own C index y bytes maxL ret wy rm 0 0 n) (q0 : Nat) (isC isR ps : List Nat) (W1 : va_W)
    (hrec : ws[q0]? = some (b, .inr (ci, fs))) (hcl : vwCl[ci]? = some (C, T, N)) (hC : isC.map (fun i => ws[i]?) = wc.map some) (hR : w1.length = isC.length) (hps : k_mix isR ws w1 = W1)
    (hn : va_nd isC = true ∧ k_ok 0 isC isR = true) (hlen : As.length = n) (hst : st = As.reverse ++ .ref b :: rest) (hrest : (rest.map fun v => v.category).sum ≤ 8) (hroom : 0 ≤ R.cells ∧ 0 ≤ R.slots) (hdg : decode cc pc = .ok (.invokevirtual index, 3))
    (kk : ∀ (H1 : Heap) (locs1 : List Loc), va_P D vwCl W1 H1 → va_D A W1 → va_S A s.heap H1 locs1 → W p l e R s m args below meth c H1 locs1 0 0 Q (F0 m (pc + 3) ls rest)) : W p l e R s m args below meth c H locs 0 0 Q (F0 m pc ls st) := by
  subst hst
  have hFc := va_free (wc := wc) hD hS hA isC hC
  refine va_callv (va_runV (As := As) (rest := rest) F (hM H.size) cw ⟨kP_blind, va_recv hK hP (q := (C, T, N)) hcl hrec, k_pre hK hP hD hC hn.1⟩ rfl hlen hl.1 rfl (lv_room hrest) hdg hroom) hS (fun q _ h => hFc q h) hFc (fun u t H1 locs1 ht hvm hw hB hz1 hk1 hS => ?_)
  obtain ⟨hP1, hD1⟩ := hB
  rw [ht] at hP1
  obtain ⟨hP, hD⟩ := k_joinP hP hD isC isR hC hR hps hn.2 hk1 hFc hP1 hD1
  exact kk H1 locs1 hP hD hS
theorem cl_Si {y : MethodName} {wy : List Cond} {rm : Room} {index n maxL : Nat} {bytes : ByteArray} {ret : Option FieldType} {As : List Value} {wc w1 : va_W} {r : Int32}
    (F : CallFix p m c cc nL s args Ts own) (hK : va_K D vwCl tys s) (hP : va_P D vwCl ws H) (hD : va_D A ws) (hS : va_S A s.heap H locs) (hA : ∀ q : Nat, s.heap.size ≤ q → A q) (hl : lv_has ls nL lv)
    (hM : Mi l y wy rm D tys As wc w1 r) (cw : CallB R s args own index y bytes maxL ret wy rm 0 0 n ∧ (Cond.static y).before args s = true) (isC isR ps : List Nat) (W1 : va_W)
    (hC : isC.map (fun i => ws[i]?) = wc.map some) (hR : w1.length = isC.length) (hps : k_mix isR ws w1 = W1)
    (hn : va_nd isC = true ∧ k_ok 0 isC isR = true) (hlen : As.length = n) (hst : st = As.reverse ++ rest) (hrest : (rest.map fun v => v.category).sum ≤ 8) (hroom : 0 ≤ R.cells ∧ 0 ≤ R.slots) (hdg : decode cc pc = .ok (.invokestatic index, 3))
    (kk : ∀ (H1 : Heap) (locs1 : List Loc), va_P D vwCl W1 H1 → va_D A W1 → va_S A s.heap H1 locs1 → W p l e R s m args below meth c H1 locs1 0 0 Q (F0 m (pc + 3) ls (.int r :: rest))) : W p l e R s m args below meth c H locs 0 0 Q (F0 m pc ls st) := by
  subst hst
  have hFc := va_free (wc := wc) hD hS hA isC hC
  refine va_calli (va_runS (As := As) (rest := rest) F (hM H.size) cw ⟨kP_blind, k_pre hK hP hD hC hn.1⟩ rfl hlen hl.1 rfl (lv_room hrest) hdg hroom) hS (fun q _ h => hFc q h) hFc (fun r1 u t H1 locs1 ht hvm hw hB hz1 hk1 hS => ?_)
  obtain ⟨hP1, hD1⟩ := hB
  rw [ht] at hP1
  obtain ⟨hP, hD⟩ := k_joinP hP hD isC isR hC hR hps hn.2 hk1 hFc hP1 hD1
  have hw : r1 = r := hw
  subst hw
  exact kk H1 locs1 hP hD hS
theorem cl_Sl {y : MethodName} {wy : List Cond} {rm : Room} {index n maxL : Nat} {bytes : ByteArray} {ret : Option FieldType} {As : List Value} {wc w1 : va_W} {r : Int64}
    (F : CallFix p m c cc nL s args Ts own) (hK : va_K D vwCl tys s) (hP : va_P D vwCl ws H) (hD : va_D A ws) (hS : va_S A s.heap H locs) (hA : ∀ q : Nat, s.heap.size ≤ q → A q) (hl : lv_has ls nL lv)
    (hM : Ml l y wy rm D tys As wc w1 r) (cw : CallB R s args own index y bytes maxL ret wy rm 0 0 n ∧ (Cond.static y).before args s = true) (isC isR ps : List Nat) (W1 : va_W)
    (hC : isC.map (fun i => ws[i]?) = wc.map some) (hR : w1.length = isC.length) (hps : k_mix isR ws w1 = W1)
    (hn : va_nd isC = true ∧ k_ok 0 isC isR = true) (hlen : As.length = n) (hst : st = As.reverse ++ rest) (hrest : (rest.map fun v => v.category).sum ≤ 8) (hroom : 0 ≤ R.cells ∧ 0 ≤ R.slots) (hdg : decode cc pc = .ok (.invokestatic index, 3))
    (kk : ∀ (H1 : Heap) (locs1 : List Loc), va_P D vwCl W1 H1 → va_D A W1 → va_S A s.heap H1 locs1 → W p l e R s m args below meth c H1 locs1 0 0 Q (F0 m (pc + 3) ls (.long r :: rest))) : W p l e R s m args below meth c H locs 0 0 Q (F0 m pc ls st) := by
  subst hst
  have hFc := va_free (wc := wc) hD hS hA isC hC
  refine va_calll (va_runS (As := As) (rest := rest) F (hM H.size) cw ⟨kP_blind, k_pre hK hP hD hC hn.1⟩ rfl hlen hl.1 rfl (lv_room hrest) hdg hroom) hS (fun q _ h => hFc q h) hFc (fun r1 u t H1 locs1 ht hvm hw hB hz1 hk1 hS => ?_)
  obtain ⟨hP1, hD1⟩ := hB
  rw [ht] at hP1
  obtain ⟨hP, hD⟩ := k_joinP hP hD isC isR hC hR hps hn.2 hk1 hFc hP1 hD1
  have hw : r1 = r := hw
  subst hw
  exact kk H1 locs1 hP hD hS
theorem cl_Sv {y : MethodName} {wy : List Cond} {rm : Room} {index n maxL : Nat} {bytes : ByteArray} {ret : Option FieldType} {As : List Value} {wc w1 : va_W}
    (F : CallFix p m c cc nL s args Ts own) (hK : va_K D vwCl tys s) (hP : va_P D vwCl ws H) (hD : va_D A ws) (hS : va_S A s.heap H locs) (hA : ∀ q : Nat, s.heap.size ≤ q → A q) (hl : lv_has ls nL lv)
    (hM : Mv l y wy rm D tys As wc w1) (cw : CallB R s args own index y bytes maxL ret wy rm 0 0 n ∧ (Cond.static y).before args s = true) (isC isR ps : List Nat) (W1 : va_W)
    (hC : isC.map (fun i => ws[i]?) = wc.map some) (hR : w1.length = isC.length) (hps : k_mix isR ws w1 = W1)
    (hn : va_nd isC = true ∧ k_ok 0 isC isR = true) (hlen : As.length = n) (hst : st = As.reverse ++ rest) (hrest : (rest.map fun v => v.category).sum ≤ 8) (hroom : 0 ≤ R.cells ∧ 0 ≤ R.slots) (hdg : decode cc pc = .ok (.invokestatic index, 3))
    (kk : ∀ (H1 : Heap) (locs1 : List Loc), va_P D vwCl W1 H1 → va_D A W1 → va_S A s.heap H1 locs1 → W p l e R s m args below meth c H1 locs1 0 0 Q (F0 m (pc + 3) ls rest)) : W p l e R s m args below meth c H locs 0 0 Q (F0 m pc ls st) := by
  subst hst
  have hFc := va_free (wc := wc) hD hS hA isC hC
  refine va_callv (va_runS (As := As) (rest := rest) F (hM H.size) cw ⟨kP_blind, k_pre hK hP hD hC hn.1⟩ rfl hlen hl.1 rfl (lv_room hrest) hdg hroom) hS (fun q _ h => hFc q h) hFc (fun u t H1 locs1 ht hvm hw hB hz1 hk1 hS => ?_)
  obtain ⟨hP1, hD1⟩ := hB
  rw [ht] at hP1
  obtain ⟨hP, hD⟩ := k_joinP hP hD isC isR hC hR hps hn.2 hk1 hFc hP1 hD1
  exact kk H1 locs1 hP hD hS
end KC
theorem sw_out {x : Int32} {lo hi : Int} (h : ∀ k : Int, lo ≤ k → k ≤ hi → ¬ x = Int32.ofInt k) : x.toInt < lo ∨ hi < x.toInt := by
  by_cases h1 : x.toInt < lo
  · exact Or.inl h1
  · by_cases h2 : hi < x.toInt
    · exact Or.inr h2
    · exact absurd (Int32.ofInt_toInt x).symm (h x.toInt (by omega) (by omega))
theorem lk_0 {d k : Int} : Op.lookupswitch.offset [] d k = d := rfl
theorem lk_1 {a o d : Int} {r : List (Int × Int)} {x : Int32} (h : ¬ x = Int32.ofInt a) (t : Op.lookupswitch.offset r d x.toInt = d) : Op.lookupswitch.offset ((a, o) :: r) d x.toInt = d := by
  have hn : ¬ a = x.toInt := fun e => h (by rw [e]; exact (Int32.ofInt_toInt x).symm)
  show (if a = x.toInt then o else Op.lookupswitch.offset r d x.toInt) = d
  rw [if_neg hn]; exact t
theorem nz_of {v : Int32} (h : v = 0 ∨ v = 1) : narrow .boolean (.int v) = .int v := by rcases h with rfl | rfl <;> rfl
theorem fz_of {v : Int32} (h : v = 0 ∨ v = 1) : fits .boolean (.int v) = true := by rcases h with rfl | rfl <;> rfl
theorem sw_n {x : Int32} {lo hi : Int} (h : hi < lo) : x.toInt < lo ∨ hi < x.toInt := by omega
theorem sw_c {x : Int32} {lo hi : Int} (h : ¬ x = Int32.ofInt lo) (t : x.toInt < lo + 1 ∨ hi < x.toInt) : x.toInt < lo ∨ hi < x.toInt := by
  rcases t with t | t
  · by_cases q : x.toInt = lo
    · exact absurd (by rw [← q]; exact (Int32.ofInt_toInt x).symm) h
    · left; omega
  · exact Or.inr t
