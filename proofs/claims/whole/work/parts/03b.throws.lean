/-! Methods that throw: what must stand for a throw (tf), contracts that return or throw, their entry, their ends, their calls. -/
def tf_strs : List (Nat × String) := [(38, "there are 12 states"), (53, "there is no such state"), (56, "there is no such event"), (58, "there is no such variable"), (66, "there is no such guard"), (72, "there are 40 transitions"), (86, "there is no such transition"), (92, "there is no such action"), (97, "the transition has 3 actions"), (103, "there is no transition"), (105, "there is no such timer or event"), (124, "ticks is not 0 to 1000"), (135, "there is no such timer"), (146, "there is no such index in the output"), (179, "there is no such cell"), (211, "there is no table"), (213, "there is no such class")]
def tf_cls : List String := ["java/lang/IllegalStateException", "java/lang/IllegalArgumentException", "java/lang/IndexOutOfBoundsException"]
def tf_sup : List String := ["java/lang/RuntimeException", "java/lang/Exception", Bundle.tN]
def tf (A : Nat → Prop) (U : State) (H : Heap) : Prop := vx_Zq Bundle.tN "UNASSIGNED_STACK" Bundle.steD A U H ∧ vx_Zq Bundle.tN "SUPPRESSED_SENTINEL" Bundle.listD A U H ∧ (∀ q ∈ tf_strs, ∃ sa : Nat, vk_R RX3 q.1 q.2 sa U) ∧ (∀ X ∈ tf_cls, va_Nw (.castable X X) U) ∧ (∀ X ∈ tf_cls, ∀ Y ∈ tf_cls, X ≠ Y → va_Nc X Y U) ∧ (∀ Y ∈ tf_sup, va_Nw (.declares (Bundle.initS Y)) U)
theorem tf.go {A B : Nat → Prop} {s U : State} {H : Heap} {locs : List Loc} (h : tf A s s.heap) (hS : va_S A s.heap H locs) (hW : s.WarmedH U.vm) (hAB : ∀ q, B q → A q) : tf B U H := by
  obtain ⟨h1, h2, h3, h4, h5, h6⟩ := h
  exact ⟨((h1.kept (fun a ha hn => hS.2.1 a ha hn)).moved hW.alike).narrow hAB, ((h2.kept (fun a ha hn => hS.2.1 a ha hn)).moved hW.alike).narrow hAB, fun q hq => (h3 q hq).elim fun sa h => ⟨sa, h.warm hW⟩, fun X hX => (h4 X hX).warmC hW, fun X hX Y hY n => (h5 X hX Y hY n).moved hW.alike, fun Y hY => (h6 Y hY).warmD hW⟩
theorem tf.calling {A : Nat → Prop} {U : State} {g : JFrame} {mk : MethodId} {a : Array Value} (h : tf A U U.heap) : tf A (U.calling g mk a) (U.calling g mk a).heap := by
  obtain ⟨h1, h2, h3, h4, h5, h6⟩ := h
  exact ⟨vx_Zq.moved (u := U) (Vm.Alike.refl U.vm) h1, vx_Zq.moved (u := U) (Vm.Alike.refl U.vm) h2, fun q hq => (h3 q hq).elim fun sa h => ⟨sa, vk_R.same (u := U) rfl h⟩, fun X hX => va_Nw.same (u := U) rfl rfl (h4 X hX), fun X hX Y hY n => va_Nc.moved (u := U) (Vm.Alike.refl U.vm) (h5 X hX Y hY n), fun Y hY => va_Nw.same (u := U) rfl rfl (h6 Y hY)⟩
def px_P (D : va_G) (tys : List (ClassId × FieldType)) (w : va_W) (sz : Nat) (U : State) : Prop := pw_P D tys w sz U ∧ tf (va_A w sz) U U.heap
theorem px_blind {D : va_G} {tys : List (ClassId × FieldType)} {w : va_W} {av : List Value} {sz : Nat} : FrameBlind (va_Pc av (px_P D tys w sz)) := fun a U g mk q => by
  obtain ⟨q0, q1, q2⟩ := q
  exact ⟨q0, (pw_blind (D := D) (tys := tys) (w := w) (av := av) (sz := sz) a U g mk ⟨q0, q1⟩).2, q2.calling⟩
def px_X {T : Type} (D : va_G) (tys : List (ClassId × FieldType)) (w : va_W) (A : Nat → Prop) (o : String ⊕ T) : String → State → State → Prop := vx_X (fun _ : Unit => True) (fun E _ t => o = .inl E ∧ pw_B D tys w A () t) A
abbrev px_Qi {T : Type} (D : va_G) (tys : List (ClassId × FieldType)) (w1 : T → va_W) (A : Nat → Prop) (o : String ⊕ T) (r : T → Int32) := va_Qi (fun (x : Int32) (u : T) => o = .inr u ∧ x = r u) (fun u => pw_B D tys (w1 u) A ()) A
abbrev px_Qd {T : Type} (D : va_G) (tys : List (ClassId × FieldType)) (w1 : T → va_W) (A : Nat → Prop) (o : String ⊕ T) (r : T → UInt64) := va_Qd (fun (x : UInt64) (u : T) => o = .inr u ∧ x = r u) (fun u => pw_B D tys (w1 u) A ()) A
abbrev px_Qv {T : Type} (D : va_G) (tys : List (ClassId × FieldType)) (w1 : T → va_W) (A : Nat → Prop) (o : String ⊕ T) := va_Qv (fun (u : T) => o = .inr u) (fun u => pw_B D tys (w1 u) A ()) A
def Xi {T : Type} (l : Launch) (y : MethodName) (ws : List Cond) (rm : Room) (D : va_G) (tys : List (ClassId × FieldType)) (w : va_W) (av : List Value) (o : String ⊕ T) (r : T → Int32) (w1 : T → va_W) : Prop := ∀ sz : Nat, vx_Met l y ws rm (va_Pc av (px_P D tys w sz)) (px_Qi D tys w1 (va_A w sz) o r) (px_X D tys w (va_A w sz) o) rm.cells rm.slots (va_A w sz)
def Xd {T : Type} (l : Launch) (y : MethodName) (ws : List Cond) (rm : Room) (D : va_G) (tys : List (ClassId × FieldType)) (w : va_W) (av : List Value) (o : String ⊕ T) (r : T → UInt64) (w1 : T → va_W) : Prop := ∀ sz : Nat, vx_Met l y ws rm (va_Pc av (px_P D tys w sz)) (px_Qd D tys w1 (va_A w sz) o r) (px_X D tys w (va_A w sz) o) rm.cells rm.slots (va_A w sz)
def Xv {T : Type} (l : Launch) (y : MethodName) (ws : List Cond) (rm : Room) (D : va_G) (tys : List (ClassId × FieldType)) (w : va_W) (av : List Value) (o : String ⊕ T) (w1 : T → va_W) : Prop := ∀ sz : Nat, vx_Met l y ws rm (va_Pc av (px_P D tys w sz)) (px_Qv D tys w1 (va_A w sz) o) (px_X D tys w (va_A w sz) o) rm.cells rm.slots (va_A w sz)
section PXE
variable {l : Launch} {y : MethodName} {ws ws' : List Cond} {rm : Room} {D : va_G} {tys : List (ClassId × FieldType)} {w : va_W} {av : List Value} {cc : ByteArray} {maxL : Nat} {ret : Option FieldType}
theorem px_entry {Qc : (Nat → Prop) → Array Value → State → Outcome → State → Prop} {XC : (Nat → Prop) → String → State → State → Prop} (hy : plainName y.cls = true) (hw : ws = Cond.code y cc maxL ret :: ws') (hlen : (lg_sl av).length ≤ maxL)
    (body : ∀ (p : Program) (e : Env) (s : State) (m : MethodId) (args : Array Value) (below : List Frame) (meth : Method) (c : Code) (A : Nat → Prop) (ls : Array Slot) (Z : State → Prop) (H : Heap) (locs : List Loc), p.tables.exec = Jvm.exec → c.code = cc → meth.sig.returnType = ret → meth.locks = false → (∀ z ∈ ws, z.before args s = true) → s.vm.findClass y.cls = some m.cls → c.maxLocals = maxL → meth.name = y.name → va_K D vwCl tys s → va_P D vwCl w H → va_D A w → va_S A s.heap H locs → (∀ q : Nat, s.heap.size ≤ q → A q) → lv_has ls maxL (lv_args 0 av) → tf A s s.heap → (∀ x ∈ c.exceptionTable.toList, False) → Z = vx_MQ below (Qc A) (XC A) args s rm.cells rm.slots A →
      W p l e rm s m args below meth c H locs 0 0 Z (F0 m 0 ls [])) (sz : Nat) : vx_Met l y ws rm (va_Pc av (px_P D tys w sz)) (Qc (va_A w sz)) (XC (va_A w sz)) rm.cells rm.slots (va_A w sz) := by
  refine vx_ofW (cc := cc) (maxL := maxL) (ret := ret) hy hw ?_
  intro p e s m args below meth c s₁ B hml hex hv
  obtain ⟨rfl, ⟨hsz, hP, hK, hD0⟩, hT⟩ := hv
  subst hsz
  have hl := lv_entry av (n := maxL) hlen
  rw [lg_entry_eq]
  exact body p e s m av.toArray below meth c (va_A w s.heap.size) _ _ s.heap [] B.exec B.bytes B.returns B.notSynchronized (atoms_spec (ws := ws) B.pre) (findClass_of_methodNamed B.named) hml (name_of_methodNamed B.named B.method).1 hK hP hD0.self va_S.rf (fun q h => Or.inr h) hl hT hex rfl
end PXE
section PXR
variable {p : Program} {l : Launch} {e : Env} {R : Room} {s : State} {m : MethodId} {args : Array Value} {below : List Frame} {meth : Method} {c : Code} {H : Heap} {locs : List Loc} {cells slots mc ms : Nat} {cc : ByteArray} {pc : Nat} {ls : Array Slot} {D : va_G} {tys : List (ClassId × FieldType)} {w : va_W} {A : Nat → Prop} {T : Type} {o : String ⊕ T} {u : T} {w1 : T → va_W} {XC : String → State → State → Prop} {rest : List Value}
theorem px_ri {v : Int32} {r : T → Int32} (hx : p.tables.exec = Jvm.exec) (hb : c.code = cc) (hr : meth.sig.returnType = some .int) (hlocks : meth.locks = false) (ho : o = .inr u) (hv : v = r u) (hK : va_K D vwCl tys s) (hP : va_P D vwCl (w1 u) H) (hD : va_D A (w1 u)) (hS : va_S A s.heap H locs) (hc : cells ≤ mc) (hs : slots ≤ ms) (hd : decode cc pc = .ok (.ireturn, 1)) : W p l e R s m args below meth c H locs cells slots (vx_MQ below (px_Qi D tys w1 A o r) XC args s mc ms A) (F0 m pc ls [.int v]) := by
  refine vx_ret (W.widen hc hs ?_)
  exact W.iret (v := v) hx hb hr (fun t ht hW => ⟨⟨v, u, rfl, ⟨ho, hv⟩, by rw [ht]; exact hP, va_K.moved hW.alike hK, hD⟩, hS.F ht⟩) hS.2.2 hd hlocks
theorem px_rz {v : Int32} {r : T → Int32} (hx : p.tables.exec = Jvm.exec) (hb : c.code = cc) (hr : meth.sig.returnType = some .boolean) (hlocks : meth.locks = false) (hn : v = 0 ∨ v = 1) (ho : o = .inr u) (hv : v = r u) (hK : va_K D vwCl tys s) (hP : va_P D vwCl (w1 u) H) (hD : va_D A (w1 u)) (hS : va_S A s.heap H locs) (hc : cells ≤ mc) (hs : slots ≤ ms) (hd : decode cc pc = .ok (.ireturn, 1)) : W p l e R s m args below meth c H locs cells slots (vx_MQ below (px_Qi D tys w1 A o r) XC args s mc ms A) (F0 m pc ls [.int v]) := by
  refine vx_ret (W.widen hc hs ?_)
  exact W.zret (v := v) hx hb hr (by rcases hn with rfl | rfl <;> decide) (fun t ht hW => ⟨⟨v, u, rfl, ⟨ho, hv⟩, by rw [ht]; exact hP, va_K.moved hW.alike hK, hD⟩, hS.F ht⟩) hS.2.2 hd hlocks
theorem px_rd {v : UInt64} {r : T → UInt64} (hx : p.tables.exec = Jvm.exec) (hb : c.code = cc) (hr : meth.sig.returnType = some .double) (hlocks : meth.locks = false) (ho : o = .inr u) (hv : v = r u) (hK : va_K D vwCl tys s) (hP : va_P D vwCl (w1 u) H) (hD : va_D A (w1 u)) (hS : va_S A s.heap H locs) (hc : cells ≤ mc) (hs : slots ≤ ms) (hd : decode cc pc = .ok (.dreturn, 1)) : W p l e R s m args below meth c H locs cells slots (vx_MQ below (px_Qd D tys w1 A o r) XC args s mc ms A) (F0 m pc ls [.double v]) := by
  refine vx_ret (W.widen hc hs ?_)
  exact W.dret (v := v) hx hb hr (fun t ht hW => ⟨⟨v, u, rfl, ⟨ho, hv⟩, by rw [ht]; exact hP, va_K.moved hW.alike hK, hD⟩, hS.F ht⟩) hS.2.2 hd hlocks
theorem px_rv (hx : p.tables.exec = Jvm.exec) (hb : c.code = cc) (hr : meth.sig.returnType = none) (hlocks : meth.locks = false) (ho : o = .inr u) (hK : va_K D vwCl tys s) (hP : va_P D vwCl (w1 u) H) (hD : va_D A (w1 u)) (hS : va_S A s.heap H locs) (hc : cells ≤ mc) (hs : slots ≤ ms) (hd : decode cc pc = .ok (.return_, 1)) : W p l e R s m args below meth c H locs cells slots (vx_MQ below (px_Qv D tys w1 A o) XC args s mc ms A) (F0 m pc ls []) := by
  refine vx_ret (W.widen hc hs ?_)
  exact W.vret hx hb hr (fun t ht hW => ⟨⟨u, rfl, ho, by rw [ht]; exact hP, va_K.moved hW.alike hK, hD⟩, hS.F ht⟩) hS.2.2 hd hlocks
theorem px_throw {Qc : Array Value → State → Outcome → State → Prop} {cls text : String} {ik is ic : Nat} (hx : p.tables.exec = Jvm.exec) (hb : c.code = cc) (hst : l.stackTraces = false) (hown : s.vm.findClass RX3 = some m.cls) (hk : (Cond.classLink RX3 ik cls).before args s = true) (hini : (Cond.initialized cls).before args s = true)
    (hat : ∀ z ∈ (vx_atS RX3 ic cls ["java/lang/RuntimeException", "java/lang/Exception"]).filter goodWord, z.before args s = true) (hng : ∀ z ∈ (vx_atS RX3 ic cls ["java/lang/RuntimeException", "java/lang/Exception"]).filter (fun z => !goodWord z), z ∈ [Cond.castable cls cls, .declares (Bundle.initS "java/lang/RuntimeException"), .declares (Bundle.initS "java/lang/Exception"), .declares (Bundle.initS Bundle.tN)])
    (hgood : ∀ z ∈ Cond.classLink RX3 ik cls :: Cond.initialized cls :: vx_atS RX3 ic cls ["java/lang/RuntimeException", "java/lang/Exception"], vx_ot z = true) (hfit : Bundle.fit cls = true) (hms : (is, text) ∈ tf_strs) (hmc : cls ∈ tf_cls) (hT : tf A s s.heap) (hS : va_S A s.heap H locs) (hK : va_K D vwCl tys s) (hP : va_P D vwCl w H) (hD : va_D A w) (hsize : ls.size = c.maxLocals)
    (d0 : decode cc pc = .ok (.new ik, 3)) (d3 : decode cc (pc + 3) = .ok (.dup, 1)) (d4 : decode cc (pc + 4) = .ok (.ldc is, 2)) (d6 : decode cc (pc + 6) = .ok (.invokespecial ic, 3)) (d9 : decode cc (pc + 9) = .ok (.athrow, 1)) (hex : ∀ x ∈ c.exceptionTable.toList, False)
    (hf : 5 < R.frames) (hl : (rest.map fun v => v.category).sum + 82 ≤ R.locals) (hrc : cells + 1 ≤ R.cells) (hrs : slots + 6 ≤ R.slots) (hlocks : meth.locks = false) (ho : o = .inl cls) (hc : cells + 1 ≤ mc) (hs : slots + 6 ≤ ms) : W p l e R s m args below meth c H locs cells slots (vx_MQ below Qc (px_X D tys w A o) args s mc ms A) (F0 m pc ls rest) := by
  obtain ⟨hU, hN, h3, h4, -, h6⟩ := hT
  obtain ⟨sa, hsa⟩ := h3 _ hms
  refine vx_throwS (sa := sa) (names := ["java/lang/RuntimeException", "java/lang/Exception"]) hx hb hst hown hfit (by decide +kernel) hk hini hsa (vx_hat hat hng (vx_c (va_Nw.use rfl (h4 _ hmc)) (vx_c (va_Nw.use rfl (h6 _ (by decide +kernel))) (vx_c (va_Nw.use rfl (h6 _ (by decide +kernel))) (vx_c (va_Nw.use rfl (h6 _ (by decide +kernel))) vx_n))))) hgood hU hN hS hsize d0 d3 d4 d6 d9 (fun x h => (hex x h).elim) hf hl hrc hrs hlocks (fun t hvm hz hk1 => ?_) hS.2.2 hc hs
  refine ⟨(), trivial, ⟨ho, hP.kept (fun k q hq => hk1 q.1 (hP k q hq).lt), va_K.moved hvm hK, hD⟩, Nat.le_trans hS.1 hz, fun q h1 h2 => ?_⟩
  rw [hk1 q (Nat.lt_of_lt_of_le h1 hS.1)]
  exact hS.2.1 q h1 h2
theorem px_out {Qc : Array Value → State → Outcome → State → Prop} {E : String} {ce : Cell} {q9 : Addr} (hlocks : meth.locks = false) (hex : ∀ x ∈ c.exceptionTable.toList, False) (hK : va_K D vwCl tys s) (hP : va_P D vwCl w H) (hD : va_D A w) (hS : va_S A s.heap H locs) (h1 : H[q9]? = some ce) (h2 : ce.vm = .none) (h3 : s.vm.findClass E = some ce.cls) (ho : o = .inl E) (hc : cells ≤ mc) (hs : slots ≤ ms) : vx_W p l e R s m args below meth c H locs cells slots (vx_MQ below Qc (px_X D tys w A o) args s mc ms A) (F0 m pc ls rest) q9 :=
  vx_out (fun x h => (hex x h).elim) hlocks h1 h2 h3 (fun t ht hvm => ⟨(), trivial, ⟨ho, by rw [ht]; exact hP, va_K.moved hvm hK, hD⟩, hS.F ht⟩) hS.2.2 hc hs
end PXR
section PXC
variable {p : Program} {l : Launch} {e : Env} {R : Room} {s : State} {m : MethodId} {args : Array Value} {below : List Frame} {meth : Method} {c : Code} {H : Heap} {locs : List Loc} {cells slots : Nat} {Q : State → Prop} {cc bytes : ByteArray} {nL maxL index n pc : Nat} {ls : Array Slot} {D : va_G} {tys tysC : List (ClassId × FieldType)} {w wF wc : va_W} {A : Nat → Prop} {own C : String} {y : MethodName} {ret : Option FieldType} {wsm Ts : List Cond} {rm : Room} {As rest st0 : List Value} {b : Addr} {T : Type} {o : String ⊕ T} {w1 : T → va_W}
theorem px_cVvW (S : CallFix p m c cc nL s args Ts own) (hM : Xv l y wsm rm D tys w (.ref b :: As) o w1) (cw : CallW R s args own C index y bytes maxL ret wsm rm rm.cells rm.slots n) (q0 ci : Nat) {fs : List Value} {T0 : u_T} {N : Nat} (hc : vwCl[ci]? = some (C, T0, N)) (he : w[q0]? = some (b, .inr (ci, fs))) (hK : va_K D vwCl tys s) (hP : va_P D vwCl w H) (hD : va_D A w) (hS : va_S A s.heap H locs) (hA : ∀ q : Nat, s.heap.size ≤ q → A q) (hT : tf A s s.heap) (hn : As.length = n) (hsize : ls.size = nL) (hst : st0 = As.reverse ++ .ref b :: rest) (hW : (rest.map fun v => v.category).sum ≤ 8) (hdg : decode cc pc = .ok (.invokevirtual index, 3)) (hf : cells + rm.cells ≤ R.cells ∧ slots + rm.slots ≤ R.slots)
    (kx : ∀ (E : String) (ce : Cell) (q9 : Addr) (H1 : Heap) (locs1 : List Loc), o = .inl E → va_P D vwCl w H1 → va_D A w → va_S A s.heap H1 locs1 → H1[q9]? = some ce → ce.vm = .none → s.vm.findClass E = some ce.cls → vx_W p l e R s m args below meth c H1 locs1 (cells + rm.cells) (slots + rm.slots) Q (F0 m pc ls rest) q9)
    (kk : ∀ (u : T) (H1 : Heap) (locs1 : List Loc), o = .inr u → va_P D vwCl (w1 u) H1 → va_D A (w1 u) → va_S A s.heap H1 locs1 → W p l e R s m args below meth c H1 locs1 (cells + rm.cells) (slots + rm.slots) Q (F0 m (pc + 3) ls (rest))) : W p l e R s m args below meth c H locs cells slots Q (F0 m pc ls st0) := by
  subst hst
  have hPc := hP
  have hDc := hD
  have hF := pw_F (D := D) hD hS hA
  refine vx_callv (A0 := A) (H0 := s.heap) (vx_runV (As := As) (rest := rest) S (hM H.size) cw ⟨px_blind, va_recv hK hPc hc he, fun U hU hW => ⟨rfl, ⟨by rw [hU], by rw [hU]; exact hPc, va_K.moved hW.alike hK, hDc.weaken (fun _ _ _ _ => trivial)⟩, by rw [hU]; exact hT.go hS hW hF⟩⟩ rfl hn hsize rfl (lv_room hW) hdg hf) hS (fun q _ h => hF q h) hF (fun q _ h => hF q h) (fun E ce q9 u t H1 locs1 ht hvm hu hB hz1 hk1 hS1 g1 g2 g3 => ?_) (fun u t H1 locs1 ht hvm hw hB hz1 hk1 hS1 => ?_)
  · obtain ⟨hP1, -, hD1⟩ := hB.2
    rw [ht] at hP1
    exact kx E ce q9 H1 locs1 hB.1 hP1 (hD1.weaken (fun _ _ _ h => hF _ h)) hS1 g1 g2 g3
  obtain ⟨hP1, -, hD1⟩ := hB
  rw [ht] at hP1
  exact kk u H1 locs1 hw hP1 (hD1.weaken (fun _ _ _ h => hF _ h)) hS1
theorem px_cVvP (S : CallFix p m c cc nL s args Ts own) (hM : Xv l y wsm rm D tysC wc (.ref b :: As) o w1) (cw : CallW R s args own C index y bytes maxL ret wsm rm rm.cells rm.slots n) (q0 ci : Nat) {fs : List Value} {T0 : u_T} {N : Nat} (hc : vwCl[ci]? = some (C, T0, N)) (he : wc[q0]? = some (b, .inr (ci, fs))) (hK : va_K D vwCl tysC s) (hP : va_P D vwCl wF H) (hD : va_D A wF) (hS : va_S A s.heap H locs) (hA : ∀ q : Nat, s.heap.size ≤ q → A q) (isC isR : List Nat) (hC : isC.map (fun i => wF[i]?) = wc.map some) (hR : isR.map (fun i => wF[i]?) = (isR.filterMap (fun i => wF[i]?)).map some) (hnC : va_nd isC = true) (hnR : va_nd isR = true) (hdis : ∀ i ∈ isR, i ∉ isC) (hT : tf A s s.heap) (hn : As.length = n) (hsize : ls.size = nL) (hst : st0 = As.reverse ++ .ref b :: rest) (hW : (rest.map fun v => v.category).sum ≤ 8) (hdg : decode cc pc = .ok (.invokevirtual index, 3)) (hf : cells + rm.cells ≤ R.cells ∧ slots + rm.slots ≤ R.slots)
    (kx : ∀ (E : String) (ce : Cell) (q9 : Addr) (H1 : Heap) (locs1 : List Loc), o = .inl E → va_P D vwCl (isR.filterMap (fun i => wF[i]?) ++ wc) H1 → va_D A (isR.filterMap (fun i => wF[i]?) ++ wc) → va_S A s.heap H1 locs1 → H1[q9]? = some ce → ce.vm = .none → s.vm.findClass E = some ce.cls → vx_W p l e R s m args below meth c H1 locs1 (cells + rm.cells) (slots + rm.slots) Q (F0 m pc ls rest) q9)
    (kk : ∀ (u : T) (H1 : Heap) (locs1 : List Loc), o = .inr u → va_P D vwCl (isR.filterMap (fun i => wF[i]?) ++ w1 u) H1 → va_D A (isR.filterMap (fun i => wF[i]?) ++ w1 u) → va_S A s.heap H1 locs1 → W p l e R s m args below meth c H1 locs1 (cells + rm.cells) (slots + rm.slots) Q (F0 m (pc + 3) ls (rest))) : W p l e R s m args below meth c H locs cells slots Q (F0 m pc ls st0) := by
  subst hst
  have hPc := pw_part hC hP
  have hDc := hD.sub isC hnC hC
  have hF := pw_F (D := D) hDc hS hA
  refine vx_callv (A0 := A) (H0 := s.heap) (vx_runV (As := As) (rest := rest) S (hM H.size) cw ⟨px_blind, va_recv hK hPc hc he, fun U hU hW => ⟨rfl, ⟨by rw [hU], by rw [hU]; exact hPc, va_K.moved hW.alike hK, hDc.weaken (fun _ _ _ _ => trivial)⟩, by rw [hU]; exact hT.go hS hW hF⟩⟩ rfl hn hsize rfl (lv_room hW) hdg hf) hS (fun q _ h => hF q h) hF (fun q _ h => hF q h) (fun E ce q9 u t H1 locs1 ht hvm hu hB hz1 hk1 hS1 g1 g2 g3 => ?_) (fun u t H1 locs1 ht hvm hw hB hz1 hk1 hS1 => ?_)
  · obtain ⟨hP1, -, hD1⟩ := hB.2
    rw [ht] at hP1
    obtain ⟨hP2, hD2⟩ := va_join hP hD isC isR hC hR hnR hdis hk1 hF hP1 hD1
    exact kx E ce q9 H1 locs1 hB.1 hP2 hD2 hS1 g1 g2 g3
  obtain ⟨hP1, -, hD1⟩ := hB
  rw [ht] at hP1
  obtain ⟨hP2, hD2⟩ := va_join hP hD isC isR hC hR hnR hdis hk1 hF hP1 hD1
  exact kk u H1 locs1 hw hP2 hD2 hS1
theorem px_cViW {r : T → Int32} (S : CallFix p m c cc nL s args Ts own) (hM : Xi l y wsm rm D tys w (.ref b :: As) o r w1) (cw : CallW R s args own C index y bytes maxL ret wsm rm rm.cells rm.slots n) (q0 ci : Nat) {fs : List Value} {T0 : u_T} {N : Nat} (hc : vwCl[ci]? = some (C, T0, N)) (he : w[q0]? = some (b, .inr (ci, fs))) (hK : va_K D vwCl tys s) (hP : va_P D vwCl w H) (hD : va_D A w) (hS : va_S A s.heap H locs) (hA : ∀ q : Nat, s.heap.size ≤ q → A q) (hT : tf A s s.heap) (hn : As.length = n) (hsize : ls.size = nL) (hst : st0 = As.reverse ++ .ref b :: rest) (hW : (rest.map fun v => v.category).sum ≤ 8) (hdg : decode cc pc = .ok (.invokevirtual index, 3)) (hf : cells + rm.cells ≤ R.cells ∧ slots + rm.slots ≤ R.slots)
    (kx : ∀ (E : String) (ce : Cell) (q9 : Addr) (H1 : Heap) (locs1 : List Loc), o = .inl E → va_P D vwCl w H1 → va_D A w → va_S A s.heap H1 locs1 → H1[q9]? = some ce → ce.vm = .none → s.vm.findClass E = some ce.cls → vx_W p l e R s m args below meth c H1 locs1 (cells + rm.cells) (slots + rm.slots) Q (F0 m pc ls rest) q9)
    (kk : ∀ (u : T) (H1 : Heap) (locs1 : List Loc), o = .inr u → va_P D vwCl (w1 u) H1 → va_D A (w1 u) → va_S A s.heap H1 locs1 → W p l e R s m args below meth c H1 locs1 (cells + rm.cells) (slots + rm.slots) Q (F0 m (pc + 3) ls (.int (r u) :: rest))) : W p l e R s m args below meth c H locs cells slots Q (F0 m pc ls st0) := by
  subst hst
  have hPc := hP
  have hDc := hD
  have hF := pw_F (D := D) hD hS hA
  refine vx_calli (A0 := A) (H0 := s.heap) (vx_runV (As := As) (rest := rest) S (hM H.size) cw ⟨px_blind, va_recv hK hPc hc he, fun U hU hW => ⟨rfl, ⟨by rw [hU], by rw [hU]; exact hPc, va_K.moved hW.alike hK, hDc.weaken (fun _ _ _ _ => trivial)⟩, by rw [hU]; exact hT.go hS hW hF⟩⟩ rfl hn hsize rfl (lv_room hW) hdg hf) hS (fun q _ h => hF q h) hF (fun q _ h => hF q h) (fun E ce q9 u t H1 locs1 ht hvm hu hB hz1 hk1 hS1 g1 g2 g3 => ?_) (fun x u t H1 locs1 ht hvm hw hB hz1 hk1 hS1 => ?_)
  · obtain ⟨hP1, -, hD1⟩ := hB.2
    rw [ht] at hP1
    exact kx E ce q9 H1 locs1 hB.1 hP1 (hD1.weaken (fun _ _ _ h => hF _ h)) hS1 g1 g2 g3
  obtain ⟨hP1, -, hD1⟩ := hB
  rw [ht] at hP1
  obtain ⟨hw, rfl⟩ := hw
  exact kk u H1 locs1 hw hP1 (hD1.weaken (fun _ _ _ h => hF _ h)) hS1
theorem px_cViP {r : T → Int32} (S : CallFix p m c cc nL s args Ts own) (hM : Xi l y wsm rm D tysC wc (.ref b :: As) o r w1) (cw : CallW R s args own C index y bytes maxL ret wsm rm rm.cells rm.slots n) (q0 ci : Nat) {fs : List Value} {T0 : u_T} {N : Nat} (hc : vwCl[ci]? = some (C, T0, N)) (he : wc[q0]? = some (b, .inr (ci, fs))) (hK : va_K D vwCl tysC s) (hP : va_P D vwCl wF H) (hD : va_D A wF) (hS : va_S A s.heap H locs) (hA : ∀ q : Nat, s.heap.size ≤ q → A q) (isC isR : List Nat) (hC : isC.map (fun i => wF[i]?) = wc.map some) (hR : isR.map (fun i => wF[i]?) = (isR.filterMap (fun i => wF[i]?)).map some) (hnC : va_nd isC = true) (hnR : va_nd isR = true) (hdis : ∀ i ∈ isR, i ∉ isC) (hT : tf A s s.heap) (hn : As.length = n) (hsize : ls.size = nL) (hst : st0 = As.reverse ++ .ref b :: rest) (hW : (rest.map fun v => v.category).sum ≤ 8) (hdg : decode cc pc = .ok (.invokevirtual index, 3)) (hf : cells + rm.cells ≤ R.cells ∧ slots + rm.slots ≤ R.slots)
    (kx : ∀ (E : String) (ce : Cell) (q9 : Addr) (H1 : Heap) (locs1 : List Loc), o = .inl E → va_P D vwCl (isR.filterMap (fun i => wF[i]?) ++ wc) H1 → va_D A (isR.filterMap (fun i => wF[i]?) ++ wc) → va_S A s.heap H1 locs1 → H1[q9]? = some ce → ce.vm = .none → s.vm.findClass E = some ce.cls → vx_W p l e R s m args below meth c H1 locs1 (cells + rm.cells) (slots + rm.slots) Q (F0 m pc ls rest) q9)
    (kk : ∀ (u : T) (H1 : Heap) (locs1 : List Loc), o = .inr u → va_P D vwCl (isR.filterMap (fun i => wF[i]?) ++ w1 u) H1 → va_D A (isR.filterMap (fun i => wF[i]?) ++ w1 u) → va_S A s.heap H1 locs1 → W p l e R s m args below meth c H1 locs1 (cells + rm.cells) (slots + rm.slots) Q (F0 m (pc + 3) ls (.int (r u) :: rest))) : W p l e R s m args below meth c H locs cells slots Q (F0 m pc ls st0) := by
  subst hst
  have hPc := pw_part hC hP
  have hDc := hD.sub isC hnC hC
  have hF := pw_F (D := D) hDc hS hA
  refine vx_calli (A0 := A) (H0 := s.heap) (vx_runV (As := As) (rest := rest) S (hM H.size) cw ⟨px_blind, va_recv hK hPc hc he, fun U hU hW => ⟨rfl, ⟨by rw [hU], by rw [hU]; exact hPc, va_K.moved hW.alike hK, hDc.weaken (fun _ _ _ _ => trivial)⟩, by rw [hU]; exact hT.go hS hW hF⟩⟩ rfl hn hsize rfl (lv_room hW) hdg hf) hS (fun q _ h => hF q h) hF (fun q _ h => hF q h) (fun E ce q9 u t H1 locs1 ht hvm hu hB hz1 hk1 hS1 g1 g2 g3 => ?_) (fun x u t H1 locs1 ht hvm hw hB hz1 hk1 hS1 => ?_)
  · obtain ⟨hP1, -, hD1⟩ := hB.2
    rw [ht] at hP1
    obtain ⟨hP2, hD2⟩ := va_join hP hD isC isR hC hR hnR hdis hk1 hF hP1 hD1
    exact kx E ce q9 H1 locs1 hB.1 hP2 hD2 hS1 g1 g2 g3
  obtain ⟨hP1, -, hD1⟩ := hB
  rw [ht] at hP1
  obtain ⟨hw, rfl⟩ := hw
  obtain ⟨hP2, hD2⟩ := va_join hP hD isC isR hC hR hnR hdis hk1 hF hP1 hD1
  exact kk u H1 locs1 hw hP2 hD2 hS1
theorem px_cVdW {r : T → UInt64} (S : CallFix p m c cc nL s args Ts own) (hM : Xd l y wsm rm D tys w (.ref b :: As) o r w1) (cw : CallW R s args own C index y bytes maxL ret wsm rm rm.cells rm.slots n) (q0 ci : Nat) {fs : List Value} {T0 : u_T} {N : Nat} (hc : vwCl[ci]? = some (C, T0, N)) (he : w[q0]? = some (b, .inr (ci, fs))) (hK : va_K D vwCl tys s) (hP : va_P D vwCl w H) (hD : va_D A w) (hS : va_S A s.heap H locs) (hA : ∀ q : Nat, s.heap.size ≤ q → A q) (hT : tf A s s.heap) (hn : As.length = n) (hsize : ls.size = nL) (hst : st0 = As.reverse ++ .ref b :: rest) (hW : (rest.map fun v => v.category).sum ≤ 8) (hdg : decode cc pc = .ok (.invokevirtual index, 3)) (hf : cells + rm.cells ≤ R.cells ∧ slots + rm.slots ≤ R.slots)
    (kx : ∀ (E : String) (ce : Cell) (q9 : Addr) (H1 : Heap) (locs1 : List Loc), o = .inl E → va_P D vwCl w H1 → va_D A w → va_S A s.heap H1 locs1 → H1[q9]? = some ce → ce.vm = .none → s.vm.findClass E = some ce.cls → vx_W p l e R s m args below meth c H1 locs1 (cells + rm.cells) (slots + rm.slots) Q (F0 m pc ls rest) q9)
    (kk : ∀ (u : T) (H1 : Heap) (locs1 : List Loc), o = .inr u → va_P D vwCl (w1 u) H1 → va_D A (w1 u) → va_S A s.heap H1 locs1 → W p l e R s m args below meth c H1 locs1 (cells + rm.cells) (slots + rm.slots) Q (F0 m (pc + 3) ls (.double (r u) :: rest))) : W p l e R s m args below meth c H locs cells slots Q (F0 m pc ls st0) := by
  subst hst
  have hPc := hP
  have hDc := hD
  have hF := pw_F (D := D) hD hS hA
  refine vx_calld (A0 := A) (H0 := s.heap) (vx_runV (As := As) (rest := rest) S (hM H.size) cw ⟨px_blind, va_recv hK hPc hc he, fun U hU hW => ⟨rfl, ⟨by rw [hU], by rw [hU]; exact hPc, va_K.moved hW.alike hK, hDc.weaken (fun _ _ _ _ => trivial)⟩, by rw [hU]; exact hT.go hS hW hF⟩⟩ rfl hn hsize rfl (lv_room hW) hdg hf) hS (fun q _ h => hF q h) hF (fun q _ h => hF q h) (fun E ce q9 u t H1 locs1 ht hvm hu hB hz1 hk1 hS1 g1 g2 g3 => ?_) (fun x u t H1 locs1 ht hvm hw hB hz1 hk1 hS1 => ?_)
  · obtain ⟨hP1, -, hD1⟩ := hB.2
    rw [ht] at hP1
    exact kx E ce q9 H1 locs1 hB.1 hP1 (hD1.weaken (fun _ _ _ h => hF _ h)) hS1 g1 g2 g3
  obtain ⟨hP1, -, hD1⟩ := hB
  rw [ht] at hP1
  obtain ⟨hw, rfl⟩ := hw
  exact kk u H1 locs1 hw hP1 (hD1.weaken (fun _ _ _ h => hF _ h)) hS1
theorem px_cVdP {r : T → UInt64} (S : CallFix p m c cc nL s args Ts own) (hM : Xd l y wsm rm D tysC wc (.ref b :: As) o r w1) (cw : CallW R s args own C index y bytes maxL ret wsm rm rm.cells rm.slots n) (q0 ci : Nat) {fs : List Value} {T0 : u_T} {N : Nat} (hc : vwCl[ci]? = some (C, T0, N)) (he : wc[q0]? = some (b, .inr (ci, fs))) (hK : va_K D vwCl tysC s) (hP : va_P D vwCl wF H) (hD : va_D A wF) (hS : va_S A s.heap H locs) (hA : ∀ q : Nat, s.heap.size ≤ q → A q) (isC isR : List Nat) (hC : isC.map (fun i => wF[i]?) = wc.map some) (hR : isR.map (fun i => wF[i]?) = (isR.filterMap (fun i => wF[i]?)).map some) (hnC : va_nd isC = true) (hnR : va_nd isR = true) (hdis : ∀ i ∈ isR, i ∉ isC) (hT : tf A s s.heap) (hn : As.length = n) (hsize : ls.size = nL) (hst : st0 = As.reverse ++ .ref b :: rest) (hW : (rest.map fun v => v.category).sum ≤ 8) (hdg : decode cc pc = .ok (.invokevirtual index, 3)) (hf : cells + rm.cells ≤ R.cells ∧ slots + rm.slots ≤ R.slots)
    (kx : ∀ (E : String) (ce : Cell) (q9 : Addr) (H1 : Heap) (locs1 : List Loc), o = .inl E → va_P D vwCl (isR.filterMap (fun i => wF[i]?) ++ wc) H1 → va_D A (isR.filterMap (fun i => wF[i]?) ++ wc) → va_S A s.heap H1 locs1 → H1[q9]? = some ce → ce.vm = .none → s.vm.findClass E = some ce.cls → vx_W p l e R s m args below meth c H1 locs1 (cells + rm.cells) (slots + rm.slots) Q (F0 m pc ls rest) q9)
    (kk : ∀ (u : T) (H1 : Heap) (locs1 : List Loc), o = .inr u → va_P D vwCl (isR.filterMap (fun i => wF[i]?) ++ w1 u) H1 → va_D A (isR.filterMap (fun i => wF[i]?) ++ w1 u) → va_S A s.heap H1 locs1 → W p l e R s m args below meth c H1 locs1 (cells + rm.cells) (slots + rm.slots) Q (F0 m (pc + 3) ls (.double (r u) :: rest))) : W p l e R s m args below meth c H locs cells slots Q (F0 m pc ls st0) := by
  subst hst
  have hPc := pw_part hC hP
  have hDc := hD.sub isC hnC hC
  have hF := pw_F (D := D) hDc hS hA
  refine vx_calld (A0 := A) (H0 := s.heap) (vx_runV (As := As) (rest := rest) S (hM H.size) cw ⟨px_blind, va_recv hK hPc hc he, fun U hU hW => ⟨rfl, ⟨by rw [hU], by rw [hU]; exact hPc, va_K.moved hW.alike hK, hDc.weaken (fun _ _ _ _ => trivial)⟩, by rw [hU]; exact hT.go hS hW hF⟩⟩ rfl hn hsize rfl (lv_room hW) hdg hf) hS (fun q _ h => hF q h) hF (fun q _ h => hF q h) (fun E ce q9 u t H1 locs1 ht hvm hu hB hz1 hk1 hS1 g1 g2 g3 => ?_) (fun x u t H1 locs1 ht hvm hw hB hz1 hk1 hS1 => ?_)
  · obtain ⟨hP1, -, hD1⟩ := hB.2
    rw [ht] at hP1
    obtain ⟨hP2, hD2⟩ := va_join hP hD isC isR hC hR hnR hdis hk1 hF hP1 hD1
    exact kx E ce q9 H1 locs1 hB.1 hP2 hD2 hS1 g1 g2 g3
  obtain ⟨hP1, -, hD1⟩ := hB
  rw [ht] at hP1
  obtain ⟨hw, rfl⟩ := hw
  obtain ⟨hP2, hD2⟩ := va_join hP hD isC isR hC hR hnR hdis hk1 hF hP1 hD1
  exact kk u H1 locs1 hw hP2 hD2 hS1
end PXC
def Li (l : Launch) (y : MethodName) (ws : List Cond) (rm : Room) (D : va_G) (tys : List (ClassId × FieldType)) (w : va_W) (av : List Value) (r : Int32) (w1 : va_W) : Prop := ∀ sz : Nat, Met l y ws rm (va_Pc av (px_P D tys w sz)) (pw_Qi D tys w1 (va_A w sz) r) rm.cells rm.slots (va_A w sz)
theorem pl_entry {l : Launch} {y : MethodName} {ws ws' : List Cond} {rm : Room} {D : va_G} {tys : List (ClassId × FieldType)} {w : va_W} {av : List Value} {cc : ByteArray} {maxL : Nat} {ret : Option FieldType} {hh : List (Nat × Nat × Nat × Nat)} {Qc : (Nat → Prop) → Array Value → State → Outcome → State → Prop} (hy : plainName y.cls = true) (hw : ws = Cond.codeWith y cc maxL ret hh :: ws') (hlen : (lg_sl av).length ≤ maxL)
    (body : ∀ (p : Program) (e : Env) (s : State) (m : MethodId) (args : Array Value) (below : List Frame) (meth : Method) (c : Code) (A : Nat → Prop) (ls : Array Slot) (Z : State → Prop) (H : Heap) (locs : List Loc), p.tables.exec = Jvm.exec → c.code = cc → meth.sig.returnType = ret → meth.locks = false → (∀ z ∈ ws, z.before args s = true) → s.vm.findClass y.cls = some m.cls → c.maxLocals = maxL → va_K D vwCl tys s → va_P D vwCl w H → va_D A w → va_S A s.heap H locs → (∀ q : Nat, s.heap.size ≤ q → A q) → lv_has ls maxL (lv_args 0 av) → tf A s s.heap → c.exceptionTable.toList = tableOf hh → Z = MQ below (Qc A) args s rm.cells rm.slots A →
      W p l e rm s m args below meth c H locs 0 0 Z (F0 m 0 ls [])) (sz : Nat) : Met l y ws rm (va_Pc av (px_P D tys w sz)) (Qc (va_A w sz)) rm.cells rm.slots (va_A w sz) := by
  refine va_MetW (cc := cc) (maxL := maxL) (ret := ret) (hh := hh) hy hw ?_
  intro p e s m args below meth c s₁ B hml hv
  obtain ⟨rfl, ⟨hsz, hP, hK, hD0⟩, hT⟩ := hv
  subst hsz
  have hl := lv_entry av (n := maxL) hlen
  rw [lg_entry_eq]
  exact body p e s m av.toArray below meth c (va_A w s.heap.size) _ _ s.heap [] B.exec B.bytes B.returns B.notSynchronized (atoms_spec (ws := ws) B.pre) (findClass_of_methodNamed B.named) hml hK hP hD0.self va_S.rf (fun q h => Or.inr h) hl hT (vx_table (x := y) B (atoms_spec (ws := ws) B.pre _ (by rw [hw]; exact List.mem_cons_self))) rfl
section PLC
variable {p : Program} {l : Launch} {e : Env} {R : Room} {s : State} {m : MethodId} {args : Array Value} {below : List Frame} {meth : Method} {c : Code} {H : Heap} {locs : List Loc} {cells slots : Nat} {Q : State → Prop} {cc bytes : ByteArray} {nL maxL index n pc : Nat} {ls : Array Slot} {D : va_G} {tysC : List (ClassId × FieldType)} {wF wc w1 : va_W} {A : Nat → Prop} {own : String} {y : MethodName} {ret : Option FieldType} {wsm Ts : List Cond} {rm : Room} {As rest st0 : List Value} {hh : List (Nat × Nat × Nat × Nat)}
theorem pl_cSiP {r : Int32} (S : CallFix p m c cc nL s args Ts own) (hM : Li l y wsm rm D tysC wc As r w1) (cw : vx_CSW R s args own index y bytes maxL ret hh wsm rm rm.cells rm.slots n) (hK : va_K D vwCl tysC s) (hP : va_P D vwCl wF H) (hD : va_D A wF) (hS : va_S A s.heap H locs) (hA : ∀ q : Nat, s.heap.size ≤ q → A q) (isC isR : List Nat) (hC : isC.map (fun i => wF[i]?) = wc.map some) (hR : isR.map (fun i => wF[i]?) = (isR.filterMap (fun i => wF[i]?)).map some) (hnC : va_nd isC = true) (hnR : va_nd isR = true) (hdis : ∀ i ∈ isR, i ∉ isC) (hT : tf A s s.heap) (hn : As.length = n) (hsize : ls.size = nL) (hst : st0 = As.reverse ++ rest) (hW : (rest.map fun v => v.category).sum ≤ 8) (hdg : decode cc pc = .ok (.invokestatic index, 3)) (hf : cells + rm.cells ≤ R.cells ∧ slots + rm.slots ≤ R.slots)
    (kk : ∀ (H1 : Heap) (locs1 : List Loc), va_P D vwCl (isR.filterMap (fun i => wF[i]?) ++ w1) H1 → va_D A (isR.filterMap (fun i => wF[i]?) ++ w1) → va_S A s.heap H1 locs1 → W p l e R s m args below meth c H1 locs1 (cells + rm.cells) (slots + rm.slots) Q (F0 m (pc + 3) ls (.int r :: rest))) : W p l e R s m args below meth c H locs cells slots Q (F0 m pc ls st0) := by
  subst hst
  have hPc := pw_part hC hP
  have hDc := hD.sub isC hnC hC
  have hF := pw_F (D := D) hDc hS hA
  refine va_calli (A0 := A) (H0 := s.heap) (vx_runSW (As := As) (rest := rest) S (hM H.size) cw ⟨px_blind, fun U hU hW => ⟨rfl, ⟨by rw [hU], by rw [hU]; exact hPc, va_K.moved hW.alike hK, hDc.weaken (fun _ _ _ _ => trivial)⟩, by rw [hU]; exact hT.go hS hW hF⟩⟩ rfl hn hsize rfl (lv_room hW) hdg hf) hS (fun q _ h => hF q h) hF (fun x u t H1 locs1 ht hvm hw hB hz1 hk1 hS1 => ?_)
  obtain ⟨hP1, -, hD1⟩ := hB
  rw [ht] at hP1
  cases hw
  obtain ⟨hP2, hD2⟩ := va_join hP hD isC isR hC hR hnR hdis hk1 hF hP1 hD1
  exact kk H1 locs1 hP2 hD2 hS1
end PLC
def xb {α β : Type} (X : Option (String ⊕ α)) (h : String → Option β) (f : α → Option β) : Option β := X.bind fun x => match x with
  | .inl E => h E
  | .inr u => f u
theorem pr_x {α β : Type} {X : Option (String ⊕ α)} {h : String → Option β} {f : α → Option β} {o : β} (q : xb X h f = some o) : ∃ x, X = some x ∧ (∀ E, x = .inl E → h E = some o) ∧ ∀ u, x = .inr u → f u = some o := by
  cases X with
  | none => cases q
  | some x => exact ⟨x, rfl, fun E e => by subst e; exact q, fun u e => by subst e; exact q⟩
