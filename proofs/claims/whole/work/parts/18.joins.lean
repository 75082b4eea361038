/-! Calls whose callee's world is a part of the caller's, up to the order of cells. -/
theorem vP_perm {D : va_G} {cl : List vw_C} {w w' : va_W} {H : Heap} (hp : w.Perm w') (h : va_P D cl w H) : va_P D cl w' H := fun k q hk => by
  obtain ⟨i, hi⟩ := List.getElem?_of_mem (hp.mem_iff.mpr (List.mem_of_getElem? hk))
  exact h i q hi
theorem vD_iff {A : Nat → Prop} {w : va_W} : va_D A w ↔ (w.map (fun q => q.1)).Nodup ∧ ∀ q ∈ w, A q.1 := by
  constructor
  · intro h
    refine ⟨?_, fun q hq => ?_⟩
    · refine List.pairwise_iff_getElem.mpr (fun i j hi hj hij he => ?_)
      rw [List.length_map] at hi hj
      rw [List.getElem_map, List.getElem_map] at he
      have := h.1 i j _ _ (List.getElem?_eq_getElem hi) (List.getElem?_eq_getElem hj) he
      omega
    · obtain ⟨i, hi⟩ := List.getElem?_of_mem hq
      exact h.2 i q hi
  · intro h
    refine ⟨fun i j p q hi hj he => ?_, fun k q hk => h.2 q (List.mem_of_getElem? hk)⟩
    have hn := List.pairwise_iff_getElem.mp h.1
    obtain ⟨li, ei⟩ := List.getElem?_eq_some_iff.mp hi
    obtain ⟨lj, ej⟩ := List.getElem?_eq_some_iff.mp hj
    rcases Nat.lt_trichotomy i j with h1 | h1 | h1
    · exact absurd (by rw [List.getElem_map, List.getElem_map, ei, ej]; exact he) (hn i j (by rw [List.length_map]; exact li) (by rw [List.length_map]; exact lj) h1)
    · exact h1
    · exact absurd (by rw [List.getElem_map, List.getElem_map, ei, ej]; exact he.symm) (hn j i (by rw [List.length_map]; exact lj) (by rw [List.length_map]; exact li) h1)
theorem vD_perm {A : Nat → Prop} {w w' : va_W} (hp : w.Perm w') (h : va_D A w) : va_D A w' := by
  rw [vD_iff] at h ⊢
  exact ⟨(hp.map _).nodup_iff.mp h.1, fun q hq => h.2 q (hp.mem_iff.mpr hq)⟩
theorem vP_left {D : va_G} {cl : List vw_C} {w z : va_W} {H : Heap} (h : va_P D cl (w ++ z) H) : va_P D cl w H := fun k q hk => h k q (by rw [List.getElem?_append_left (List.getElem?_eq_some_iff.mp hk).1]; exact hk)
theorem vD_left {A : Nat → Prop} {w z : va_W} (h : va_D A (w ++ z)) : va_D A w := by
  rw [vD_iff] at h ⊢
  rw [List.map_append, List.nodup_append] at h
  exact ⟨h.1.1, fun q hq => h.2 q (List.mem_append_left _ hq)⟩
theorem vD_right {A : Nat → Prop} {w z : va_W} (h : va_D A (w ++ z)) : va_D A z := by
  rw [vD_iff] at h ⊢
  rw [List.map_append, List.nodup_append] at h
  exact ⟨h.1.2.1, fun q hq => h.2 q (List.mem_append_right _ hq)⟩
theorem vJ {A0 : Nat → Prop} {D : va_G} {cl : List vw_C} {wc z w1 : va_W} {H H1 : Heap} (hP : va_P D cl (wc ++ z) H) (hD : va_D A0 (wc ++ z))
    (hk : ∀ q : Nat, q < H.size → ¬ va_A wc H.size q → H1[q]? = H[q]?) (hF : ∀ q, va_A wc H.size q → A0 q) (hP1 : va_P D cl w1 H1) (hD1 : va_D (va_A wc H.size) w1) : va_P D cl (w1 ++ z) H1 ∧ va_D A0 (w1 ++ z) := by
  have apart : ∀ (k : Nat) (q : Nat × va_E), z[k]? = some q → va_at D cl q H ∧ q.1 < H.size ∧ ¬ va_A wc H.size q.1 := by
    intro k q hq
    have h2 : (wc ++ z)[wc.length + k]? = some q := by rw [List.getElem?_append_right (by omega)]; rw [Nat.add_sub_cancel_left]; exact hq
    have hl := (hP _ q h2).lt
    refine ⟨hP _ q h2, hl, fun h => ?_⟩
    rcases h with ⟨k2, e, h⟩ | h
    · have hk2 := (List.getElem?_eq_some_iff.mp h).1
      have h4 : (wc ++ z)[k2]? = some (q.1, e) := by rw [List.getElem?_append_left hk2]; exact h
      have hij := hD.1 _ _ q (q.1, e) h2 h4 rfl
      omega
    · omega
  refine ⟨va_P.app hP1 (fun k q hq => ?_), va_D.app (hD1.weaken (fun k q _ h => hF q.1 h)) (vD_right hD) (fun i j x y hx hy hxy => ?_)⟩
  · obtain ⟨g0, g1, g2⟩ := apart k q hq
    exact g0.kept (hk q.1 g1 g2)
  · obtain ⟨g0, g1, g2⟩ := apart j y hy
    have := hD1.2 i x hx
    rw [hxy] at this
    exact g2 this
theorem vK_l {D : va_G} {cl : List vw_C} {a b : List (ClassId × FieldType)} {U : State} (h : va_K D cl (a ++ b) U) : va_K D cl a U := ⟨h.1, fun k q hk => h.2 k q (by rw [List.getElem?_append_left (List.getElem?_eq_some_iff.mp hk).1]; exact hk)⟩
theorem vK_r {D : va_G} {cl : List vw_C} {a b : List (ClassId × FieldType)} {U : State} (h : va_K D cl (a ++ b) U) : va_K D cl b U := ⟨h.1, fun k q hk => h.2 (a.length + k) q (by rw [List.getElem?_append_right (by omega), Nat.add_sub_cancel_left]; exact hk)⟩
theorem vM_C {α : Type} (a z : List α) : (a ++ z).Perm (a ++ z) := List.Perm.refl _
theorem vM_M {α : Type} (a b z : List α) : (a ++ (b ++ z)).Perm (b ++ (a ++ z)) := by
  rw [← List.append_assoc, ← List.append_assoc]
  exact List.Perm.append_right z List.perm_append_comm
theorem vM_O {α : Type} (a b c d : List α) : (a ++ (b ++ (c ++ d))).Perm ((a ++ c) ++ (b ++ d)) := by
  rw [List.append_assoc]
  exact List.Perm.append_left a (vM_M b c d)
theorem vM_D {α : Type} (a b c d : List α) : (a ++ (b ++ (c ++ d))).Perm ((a ++ d) ++ (b ++ c)) := by
  rw [List.append_assoc, ← List.append_assoc b c d]
  exact List.Perm.append_left a List.perm_append_comm
section PQC
variable {p : Program} {l : Launch} {e : Env} {R : Room} {s : State} {m : MethodId} {args : Array Value} {below : List Frame} {meth : Method} {c : Code} {H : Heap} {locs : List Loc} {cells slots : Nat} {Q : State → Prop} {cc bytes : ByteArray} {nL maxL index n pc : Nat} {ls : Array Slot} {D : va_G} {tys tysC : List (ClassId × FieldType)} {w wF wc w1 : va_W} {A : Nat → Prop} {own C : String} {y : MethodName} {ret : Option FieldType} {wsm Ts : List Cond} {rm : Room} {As rest st0 : List Value} {b : Addr}
theorem pw_cViQ {r : Int32} (S : CallFix p m c cc nL s args Ts own) (hM : Ci l y wsm rm D tysC wc (.ref b :: As) r w1) (cw : CallW R s args own C index y bytes maxL ret wsm rm rm.cells rm.slots n) (q0 ci : Nat) {fs : List Value} {T : u_T} {N : Nat} (hc : vwCl[ci]? = some (C, T, N)) (he : wc[q0]? = some (b, .inr (ci, fs))) (hK : va_K D vwCl tysC s) (hP : va_P D vwCl wF H) (hD : va_D A wF) (hS : va_S A s.heap H locs) (hA : ∀ q : Nat, s.heap.size ≤ q → A q) (z : va_W) (hw : wF.Perm (wc ++ z)) (hn : As.length = n) (hsize : ls.size = nL) (hst : st0 = As.reverse ++ .ref b :: rest) (hW : (rest.map fun v => v.category).sum ≤ 8) (hdg : decode cc pc = .ok (.invokevirtual index, 3)) (hf : cells + rm.cells ≤ R.cells ∧ slots + rm.slots ≤ R.slots)
    (kk : ∀ (H1 : Heap) (locs1 : List Loc), va_P D vwCl (w1 ++ z) H1 → va_D A (w1 ++ z) → va_S A s.heap H1 locs1 → W p l e R s m args below meth c H1 locs1 (cells + rm.cells) (slots + rm.slots) Q (F0 m (pc + 3) ls (.int r :: rest))) : W p l e R s m args below meth c H locs cells slots Q (F0 m pc ls st0) := by
  subst hst
  have hP := vP_perm hw hP
  have hD := vD_perm hw hD
  have hPc := vP_left hP
  have hDc := vD_left hD
  have hF := pw_F (D := D) hDc hS hA
  refine va_calli (A0 := A) (H0 := s.heap) (va_runV (As := As) (rest := rest) S (hM H.size) cw ⟨pw_blind, va_recv hK hPc hc he, fun U hU hW => ⟨rfl, by rw [hU], by rw [hU]; exact hPc, va_K.moved hW.alike hK, hDc.weaken (fun _ _ _ _ => trivial)⟩⟩ rfl hn hsize rfl (lv_room hW) hdg hf) hS (fun q _ h => hF q h) hF (fun x u t H1 locs1 ht hvm hw9 hB hz1 hk1 hS1 => ?_)
  obtain ⟨hP1, -, hD1⟩ := hB
  rw [ht] at hP1
  cases hw9
  obtain ⟨hP2, hD2⟩ := vJ hP hD hk1 hF hP1 hD1
  exact kk H1 locs1 hP2 hD2 hS1
theorem pw_cVlQ {r : Int64} (S : CallFix p m c cc nL s args Ts own) (hM : Cl l y wsm rm D tysC wc (.ref b :: As) r w1) (cw : CallW R s args own C index y bytes maxL ret wsm rm rm.cells rm.slots n) (q0 ci : Nat) {fs : List Value} {T : u_T} {N : Nat} (hc : vwCl[ci]? = some (C, T, N)) (he : wc[q0]? = some (b, .inr (ci, fs))) (hK : va_K D vwCl tysC s) (hP : va_P D vwCl wF H) (hD : va_D A wF) (hS : va_S A s.heap H locs) (hA : ∀ q : Nat, s.heap.size ≤ q → A q) (z : va_W) (hw : wF.Perm (wc ++ z)) (hn : As.length = n) (hsize : ls.size = nL) (hst : st0 = As.reverse ++ .ref b :: rest) (hW : (rest.map fun v => v.category).sum ≤ 8) (hdg : decode cc pc = .ok (.invokevirtual index, 3)) (hf : cells + rm.cells ≤ R.cells ∧ slots + rm.slots ≤ R.slots)
    (kk : ∀ (H1 : Heap) (locs1 : List Loc), va_P D vwCl (w1 ++ z) H1 → va_D A (w1 ++ z) → va_S A s.heap H1 locs1 → W p l e R s m args below meth c H1 locs1 (cells + rm.cells) (slots + rm.slots) Q (F0 m (pc + 3) ls (.long r :: rest))) : W p l e R s m args below meth c H locs cells slots Q (F0 m pc ls st0) := by
  subst hst
  have hP := vP_perm hw hP
  have hD := vD_perm hw hD
  have hPc := vP_left hP
  have hDc := vD_left hD
  have hF := pw_F (D := D) hDc hS hA
  refine va_calll (A0 := A) (H0 := s.heap) (va_runV (As := As) (rest := rest) S (hM H.size) cw ⟨pw_blind, va_recv hK hPc hc he, fun U hU hW => ⟨rfl, by rw [hU], by rw [hU]; exact hPc, va_K.moved hW.alike hK, hDc.weaken (fun _ _ _ _ => trivial)⟩⟩ rfl hn hsize rfl (lv_room hW) hdg hf) hS (fun q _ h => hF q h) hF (fun x u t H1 locs1 ht hvm hw9 hB hz1 hk1 hS1 => ?_)
  obtain ⟨hP1, -, hD1⟩ := hB
  rw [ht] at hP1
  cases hw9
  obtain ⟨hP2, hD2⟩ := vJ hP hD hk1 hF hP1 hD1
  exact kk H1 locs1 hP2 hD2 hS1
theorem pw_cVdQ {r : UInt64} (S : CallFix p m c cc nL s args Ts own) (hM : Cd l y wsm rm D tysC wc (.ref b :: As) r w1) (cw : CallW R s args own C index y bytes maxL ret wsm rm rm.cells rm.slots n) (q0 ci : Nat) {fs : List Value} {T : u_T} {N : Nat} (hc : vwCl[ci]? = some (C, T, N)) (he : wc[q0]? = some (b, .inr (ci, fs))) (hK : va_K D vwCl tysC s) (hP : va_P D vwCl wF H) (hD : va_D A wF) (hS : va_S A s.heap H locs) (hA : ∀ q : Nat, s.heap.size ≤ q → A q) (z : va_W) (hw : wF.Perm (wc ++ z)) (hn : As.length = n) (hsize : ls.size = nL) (hst : st0 = As.reverse ++ .ref b :: rest) (hW : (rest.map fun v => v.category).sum ≤ 8) (hdg : decode cc pc = .ok (.invokevirtual index, 3)) (hf : cells + rm.cells ≤ R.cells ∧ slots + rm.slots ≤ R.slots)
    (kk : ∀ (H1 : Heap) (locs1 : List Loc), va_P D vwCl (w1 ++ z) H1 → va_D A (w1 ++ z) → va_S A s.heap H1 locs1 → W p l e R s m args below meth c H1 locs1 (cells + rm.cells) (slots + rm.slots) Q (F0 m (pc + 3) ls (.double r :: rest))) : W p l e R s m args below meth c H locs cells slots Q (F0 m pc ls st0) := by
  subst hst
  have hP := vP_perm hw hP
  have hD := vD_perm hw hD
  have hPc := vP_left hP
  have hDc := vD_left hD
  have hF := pw_F (D := D) hDc hS hA
  refine va_calld (A0 := A) (H0 := s.heap) (va_runV (As := As) (rest := rest) S (hM H.size) cw ⟨pw_blind, va_recv hK hPc hc he, fun U hU hW => ⟨rfl, by rw [hU], by rw [hU]; exact hPc, va_K.moved hW.alike hK, hDc.weaken (fun _ _ _ _ => trivial)⟩⟩ rfl hn hsize rfl (lv_room hW) hdg hf) hS (fun q _ h => hF q h) hF (fun x u t H1 locs1 ht hvm hw9 hB hz1 hk1 hS1 => ?_)
  obtain ⟨hP1, -, hD1⟩ := hB
  rw [ht] at hP1
  cases hw9
  obtain ⟨hP2, hD2⟩ := vJ hP hD hk1 hF hP1 hD1
  exact kk H1 locs1 hP2 hD2 hS1
end PQC
section PLQ
variable {p : Program} {l : Launch} {e : Env} {R : Room} {s : State} {m : MethodId} {args : Array Value} {below : List Frame} {meth : Method} {c : Code} {H : Heap} {locs : List Loc} {cells slots : Nat} {Q : State → Prop} {cc bytes : ByteArray} {nL maxL index n pc : Nat} {ls : Array Slot} {D : va_G} {tysC : List (ClassId × FieldType)} {wF wc w1 : va_W} {A : Nat → Prop} {own : String} {y : MethodName} {ret : Option FieldType} {wsm Ts : List Cond} {rm : Room} {As rest st0 : List Value} {hh : List (Nat × Nat × Nat × Nat)}
theorem pl_cSiQ {r : Int32} (S : CallFix p m c cc nL s args Ts own) (hM : Li l y wsm rm D tysC wc As r w1) (cw : vx_CSW R s args own index y bytes maxL ret hh wsm rm rm.cells rm.slots n) (hK : va_K D vwCl tysC s) (hP : va_P D vwCl wF H) (hD : va_D A wF) (hS : va_S A s.heap H locs) (hA : ∀ q : Nat, s.heap.size ≤ q → A q) (z : va_W) (hw : wF.Perm (wc ++ z)) (hT : tf A s s.heap) (hn : As.length = n) (hsize : ls.size = nL) (hst : st0 = As.reverse ++ rest) (hW : (rest.map fun v => v.category).sum ≤ 8) (hdg : decode cc pc = .ok (.invokestatic index, 3)) (hf : cells + rm.cells ≤ R.cells ∧ slots + rm.slots ≤ R.slots)
    (kk : ∀ (H1 : Heap) (locs1 : List Loc), va_P D vwCl (w1 ++ z) H1 → va_D A (w1 ++ z) → va_S A s.heap H1 locs1 → W p l e R s m args below meth c H1 locs1 (cells + rm.cells) (slots + rm.slots) Q (F0 m (pc + 3) ls (.int r :: rest))) : W p l e R s m args below meth c H locs cells slots Q (F0 m pc ls st0) := by
  subst hst
  have hP := vP_perm hw hP
  have hD := vD_perm hw hD
  have hPc := vP_left hP
  have hDc := vD_left hD
  have hF := pw_F (D := D) hDc hS hA
  refine va_calli (A0 := A) (H0 := s.heap) (vx_runSW (As := As) (rest := rest) S (hM H.size) cw ⟨px_blind, fun U hU hW => ⟨rfl, ⟨by rw [hU], by rw [hU]; exact hPc, va_K.moved hW.alike hK, hDc.weaken (fun _ _ _ _ => trivial)⟩, by rw [hU]; exact hT.go hS hW hF⟩⟩ rfl hn hsize rfl (lv_room hW) hdg hf) hS (fun q _ h => hF q h) hF (fun x u t H1 locs1 ht hvm hw9 hB hz1 hk1 hS1 => ?_)
  obtain ⟨hP1, -, hD1⟩ := hB
  rw [ht] at hP1
  cases hw9
  obtain ⟨hP2, hD2⟩ := vJ hP hD hk1 hF hP1 hD1
  exact kk H1 locs1 hP2 hD2 hS1
end PLQ
