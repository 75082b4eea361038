/-! Rules of this proof: contracts that hold a world w before and a world w1 behind, their entry, their ends, their calls; and rules that take a pure function's equation apart along the walk. -/
def pw_P (D : va_G) (tys : List (ClassId × FieldType)) (w : va_W) (sz : Nat) (U : State) : Prop := U.heap.size = sz ∧ va_P D vwCl w U.heap ∧ va_K D vwCl tys U ∧ va_D (fun _ => True) w
def pw_B (D : va_G) (tys : List (ClassId × FieldType)) (w : va_W) (A : Nat → Prop) (_ : Unit) (t : State) : Prop := va_P D vwCl w t.heap ∧ va_K D vwCl tys t ∧ va_D A w
def pw_i (r : Int32) : Int32 → Unit → Prop := fun x _ => x = r
def pw_l (r : Int64) : Int64 → Unit → Prop := fun x _ => x = r
def pw_d (r : UInt64) : UInt64 → Unit → Prop := fun x _ => x = r
def pw_v : Unit → Prop := fun _ => True
abbrev pw_Qi (D : va_G) (tys : List (ClassId × FieldType)) (w1 : va_W) (A : Nat → Prop) (r : Int32) := va_Qi (pw_i r) (pw_B D tys w1 A) A
abbrev pw_Ql (D : va_G) (tys : List (ClassId × FieldType)) (w1 : va_W) (A : Nat → Prop) (r : Int64) := va_Ql (pw_l r) (pw_B D tys w1 A) A
abbrev pw_Qd (D : va_G) (tys : List (ClassId × FieldType)) (w1 : va_W) (A : Nat → Prop) (r : UInt64) := va_Qd (pw_d r) (pw_B D tys w1 A) A
abbrev pw_Qv (D : va_G) (tys : List (ClassId × FieldType)) (w1 : va_W) (A : Nat → Prop) := va_Qv pw_v (pw_B D tys w1 A) A
/-- contracts: from the world w with the arguments av the method comes back with r and the world w1 -/
def Ci (l : Launch) (y : MethodName) (ws : List Cond) (rm : Room) (D : va_G) (tys : List (ClassId × FieldType)) (w : va_W) (av : List Value) (r : Int32) (w1 : va_W) : Prop := ∀ sz : Nat, Met l y ws rm (va_Pc av (pw_P D tys w sz)) (pw_Qi D tys w1 (va_A w sz) r) rm.cells rm.slots (va_A w sz)
def Cl (l : Launch) (y : MethodName) (ws : List Cond) (rm : Room) (D : va_G) (tys : List (ClassId × FieldType)) (w : va_W) (av : List Value) (r : Int64) (w1 : va_W) : Prop := ∀ sz : Nat, Met l y ws rm (va_Pc av (pw_P D tys w sz)) (pw_Ql D tys w1 (va_A w sz) r) rm.cells rm.slots (va_A w sz)
def Cd (l : Launch) (y : MethodName) (ws : List Cond) (rm : Room) (D : va_G) (tys : List (ClassId × FieldType)) (w : va_W) (av : List Value) (r : UInt64) (w1 : va_W) : Prop := ∀ sz : Nat, Met l y ws rm (va_Pc av (pw_P D tys w sz)) (pw_Qd D tys w1 (va_A w sz) r) rm.cells rm.slots (va_A w sz)
def Cv (l : Launch) (y : MethodName) (ws : List Cond) (rm : Room) (D : va_G) (tys : List (ClassId × FieldType)) (w : va_W) (av : List Value) (w1 : va_W) : Prop := ∀ sz : Nat, Met l y ws rm (va_Pc av (pw_P D tys w sz)) (pw_Qv D tys w1 (va_A w sz)) rm.cells rm.slots (va_A w sz)
theorem pw_blind {D : va_G} {tys : List (ClassId × FieldType)} {w : va_W} {av : List Value} {sz : Nat} : FrameBlind (va_Pc av (pw_P D tys w sz)) := fun a U g mk q => by
  obtain ⟨q0, q1, qP, qK, qD⟩ := q
  exact ⟨q0, q1, qP, va_K.moved (u := U) (U := U.calling g mk a) (Vm.Alike.refl U.vm) qK, qD⟩
theorem pw_F {D : va_G} {w : va_W} {A : Nat → Prop} {H0 H : Heap} {locs : List Loc} (hD : va_D A w) (hS : va_S A H0 H locs) (hA : ∀ q, H0.size ≤ q → A q) : ∀ q, va_A w H.size q → A q := fun q h => h.elim (fun ⟨k, _, he⟩ => hD.2 k _ he) (fun h => hA q (Nat.le_trans hS.1 h))
section PWE
variable {l : Launch} {y : MethodName} {ws ws' : List Cond} {rm : Room} {D : va_G} {tys : List (ClassId × FieldType)} {w w1 : va_W} {av : List Value} {cc : ByteArray} {maxL : Nat} {ret : Option FieldType}
/-- the entry of a method -/
theorem pw_entry {Qc : (Nat → Prop) → Array Value → State → Outcome → State → Prop} (hy : plainName y.cls = true) (hw : ws = Cond.code y cc maxL ret :: ws') (hlen : (lg_sl av).length ≤ maxL)
    (body : ∀ (p : Program) (e : Env) (s : State) (m : MethodId) (args : Array Value) (below : List Frame) (meth : Method) (c : Code) (A : Nat → Prop) (ls : Array Slot) (Z : State → Prop) (H : Heap) (locs : List Loc), p.tables.exec = Jvm.exec → c.code = cc → meth.sig.returnType = ret → meth.locks = false → (∀ z ∈ ws, z.before args s = true) → s.vm.findClass y.cls = some m.cls → c.maxLocals = maxL → meth.name = y.name → va_K D vwCl tys s → va_P D vwCl w H → va_D A w → va_S A s.heap H locs → (∀ q : Nat, s.heap.size ≤ q → A q) → lv_has ls maxL (lv_args 0 av) → Z = MQ below (Qc A) args s rm.cells rm.slots A →
      W p l e rm s m args below meth c H locs 0 0 Z (F0 m 0 ls [])) (sz : Nat) : Met l y ws rm (va_Pc av (pw_P D tys w sz)) (Qc (va_A w sz)) rm.cells rm.slots (va_A w sz) := by
  refine Met.ofW (cc := cc) (maxL := maxL) (ret := ret) hy hw ?_
  intro p e s m args below meth c s₁ B hml hv
  obtain ⟨rfl, hsz, hP, hK, hD0⟩ := hv
  subst hsz
  have hl := lv_entry av (n := maxL) hlen
  rw [lg_entry_eq]
  exact body p e s m av.toArray below meth c (va_A w s.heap.size) _ _ s.heap [] B.exec B.bytes B.returns B.notSynchronized (atoms_spec (ws := ws) B.pre) (findClass_of_methodNamed B.named) hml (name_of_methodNamed B.named B.method).1 hK hP hD0.self va_S.rf (fun q h => Or.inr h) hl rfl
end PWE
section PWR
variable {p : Program} {l : Launch} {e : Env} {R : Room} {s : State} {m : MethodId} {args : Array Value} {below : List Frame} {meth : Method} {c : Code} {H : Heap} {locs : List Loc} {cells slots mc ms : Nat} {cc : ByteArray} {pc : Nat} {ls : Array Slot} {D : va_G} {tys : List (ClassId × FieldType)} {w w1 : va_W} {A : Nat → Prop}
/-- the ends -/
theorem pw_ri {r : Int32} (hx : p.tables.exec = Jvm.exec) (hb : c.code = cc) (hr : meth.sig.returnType = some .int) (hlocks : meth.locks = false) (hK : va_K D vwCl tys s) (hP : va_P D vwCl w1 H) (hD : va_D A w1) (hS : va_S A s.heap H locs) (hc : cells ≤ mc) (hs : slots ≤ ms) (hd : decode cc pc = .ok (.ireturn, 1)) : W p l e R s m args below meth c H locs cells slots (MQ below (pw_Qi D tys w1 A r) args s mc ms A) (F0 m pc ls [.int r]) := by
  refine W.widen hc hs ?_
  exact W.iret (v := r) hx hb hr (fun t ht hW => ⟨⟨r, (), rfl, rfl, by rw [ht]; exact hP, va_K.moved hW.alike hK, hD⟩, hS.F ht⟩) hS.2.2 hd hlocks
theorem pw_rz {r : Int32} (hx : p.tables.exec = Jvm.exec) (hb : c.code = cc) (hr : meth.sig.returnType = some .boolean) (hlocks : meth.locks = false) (hn : r = 0 ∨ r = 1) (hK : va_K D vwCl tys s) (hP : va_P D vwCl w1 H) (hD : va_D A w1) (hS : va_S A s.heap H locs) (hc : cells ≤ mc) (hs : slots ≤ ms) (hd : decode cc pc = .ok (.ireturn, 1)) : W p l e R s m args below meth c H locs cells slots (MQ below (pw_Qi D tys w1 A r) args s mc ms A) (F0 m pc ls [.int r]) := by
  refine W.widen hc hs ?_
  exact W.zret (v := r) hx hb hr (by rcases hn with rfl | rfl <;> decide) (fun t ht hW => ⟨⟨r, (), rfl, rfl, by rw [ht]; exact hP, va_K.moved hW.alike hK, hD⟩, hS.F ht⟩) hS.2.2 hd hlocks
theorem pw_rl {r : Int64} (hx : p.tables.exec = Jvm.exec) (hb : c.code = cc) (hr : meth.sig.returnType = some .long) (hlocks : meth.locks = false) (hK : va_K D vwCl tys s) (hP : va_P D vwCl w1 H) (hD : va_D A w1) (hS : va_S A s.heap H locs) (hc : cells ≤ mc) (hs : slots ≤ ms) (hd : decode cc pc = .ok (.lreturn, 1)) : W p l e R s m args below meth c H locs cells slots (MQ below (pw_Ql D tys w1 A r) args s mc ms A) (F0 m pc ls [.long r]) := by
  refine W.widen hc hs ?_
  exact W.lret (v := r) hx hb hr (fun t ht hW => ⟨⟨r, (), rfl, rfl, by rw [ht]; exact hP, va_K.moved hW.alike hK, hD⟩, hS.F ht⟩) hS.2.2 hd hlocks
theorem pw_rd {r : UInt64} (hx : p.tables.exec = Jvm.exec) (hb : c.code = cc) (hr : meth.sig.returnType = some .double) (hlocks : meth.locks = false) (hK : va_K D vwCl tys s) (hP : va_P D vwCl w1 H) (hD : va_D A w1) (hS : va_S A s.heap H locs) (hc : cells ≤ mc) (hs : slots ≤ ms) (hd : decode cc pc = .ok (.dreturn, 1)) : W p l e R s m args below meth c H locs cells slots (MQ below (pw_Qd D tys w1 A r) args s mc ms A) (F0 m pc ls [.double r]) := by
  refine W.widen hc hs ?_
  exact W.dret (v := r) hx hb hr (fun t ht hW => ⟨⟨r, (), rfl, rfl, by rw [ht]; exact hP, va_K.moved hW.alike hK, hD⟩, hS.F ht⟩) hS.2.2 hd hlocks
theorem pw_rv (hx : p.tables.exec = Jvm.exec) (hb : c.code = cc) (hr : meth.sig.returnType = none) (hlocks : meth.locks = false) (hK : va_K D vwCl tys s) (hP : va_P D vwCl w1 H) (hD : va_D A w1) (hS : va_S A s.heap H locs) (hc : cells ≤ mc) (hs : slots ≤ ms) (hd : decode cc pc = .ok (.return_, 1)) : W p l e R s m args below meth c H locs cells slots (MQ below (pw_Qv D tys w1 A) args s mc ms A) (F0 m pc ls []) := by
  refine W.widen hc hs ?_
  exact W.vret hx hb hr (fun t ht hW => ⟨⟨(), rfl, trivial, by rw [ht]; exact hP, va_K.moved hW.alike hK, hD⟩, hS.F ht⟩) hS.2.2 hd hlocks
end PWR
