abbrev rmX3_addState : Room := { frames := 6, cells := 1, slots := 6, locals := 90 }
set_option maxHeartbeats 4000000 in
set_option maxRecDepth 100000 in
theorem c_X3_addState {l : Launch} {D : va_G} {ad : Nat → Nat} {ca : Nat → ClassId} (hst : l.stackTraces = false) (c_states c_transitions : Int32) (c_timerEvent c_from c_event c_next c_variable c_relation c_number c_actions c_kind c_a c_b : Nat → Int32) (c_present : Int32) (c_now : Int64) (c_emits c_kept c_ignores : Int32) (c_values : Nat → Int32) (c_due : Nat → Int64) (c_outputs c_fired : Nat → Int32) (c_made c_classes c_size c_taken : Int32) (c_stateClass c_finerClass c_usedBits c_offsets c_owners : Nat → Int32) {o : String ⊕ (Int32 × Int32 × Int32)} (hf : X3_addState c_states c_made = some o) : Xi l yX3_addState wsX3_addState rmX3_addState D (CT ca) (CW ad ca c_states c_transitions c_timerEvent c_from c_event c_next c_variable c_relation c_number c_actions c_kind c_a c_b c_present c_now c_emits c_kept c_ignores c_values c_due c_outputs c_fired c_made c_classes c_size c_taken c_stateClass c_finerClass c_usedBits c_offsets c_owners) [.ref (ad 0)] o (fun (u : Int32 × Int32 × Int32) => u.1) (fun (u : Int32 × Int32 × Int32) => (CW ad ca u.2.1 c_transitions c_timerEvent c_from c_event c_next c_variable c_relation c_number c_actions c_kind c_a c_b c_present c_now c_emits c_kept c_ignores c_values c_due c_outputs c_fired u.2.2 c_classes c_size c_taken c_stateClass c_finerClass c_usedBits c_offsets c_owners)) := by
  intro sz
  refine px_entry (Qc := fun A => px_Qi D (CT ca) (fun (u : Int32 × Int32 × Int32) => (CW ad ca u.2.1 c_transitions c_timerEvent c_from c_event c_next c_variable c_relation c_number c_actions c_kind c_a c_b c_present c_now c_emits c_kept c_ignores c_values c_due c_outputs c_fired u.2.2 c_classes c_size c_taken c_stateClass c_finerClass c_usedBits c_offsets c_owners)) A o (fun (u : Int32 × Int32 × Int32) => u.1)) (XC := fun A => px_X D (CT ca) (CW ad ca c_states c_transitions c_timerEvent c_from c_event c_next c_variable c_relation c_number c_actions c_kind c_a c_b c_present c_now c_emits c_kept c_ignores c_values c_due c_outputs c_fired c_made c_classes c_size c_taken c_stateClass c_finerClass c_usedBits c_offsets c_owners) A o) (cc := cX3_addState) (maxL := 1) (ret := (some .int)) (by decide) rfl (Nat.le_of_ble_eq_true rfl) ?_ sz
  intro p e s m args below meth c A ls Z H locs hx hb hr hlocks hts hown hml hnm hK hP hD hS hA hl hT hex hZ
  have hown : s.vm.findClass RX3 = some m.cls := hown
  have hiX1 : ∀ w ∈ u_ws RX1 TX1 13, w ∈ wsX3_addState := by decide +kernel
  have hiX2 : ∀ w ∈ u_ws RX2 TX2 10, w ∈ wsX3_addState := by decide +kernel
  have hiX3 : ∀ w ∈ u_ws RX3 TX3 3, w ∈ wsX3_addState := by decide +kernel
  have f12 := hts (.fieldLink RX3 12 "ProtocolMachine" "protocol" "LProtocolMachine$Protocol;") (by decide +kernel)
  have f28 := hts (.fieldLink RX3 28 "ProtocolMachine" "table" "LProtocolMachine$Table;") (by decide +kernel)
  have f32 := hts (.fieldLink RX3 32 "ProtocolMachine$Protocol" "states" "I") (by decide +kernel)
  have f43 := hts (.fieldLink RX3 43 "ProtocolMachine$Table" "made" "Z") (by decide +kernel)
  have kc36 := hts (.classLink RX3 36 "java/lang/IllegalStateException") (by decide +kernel)
  have ki36 := hts (.initialized "java/lang/IllegalStateException") (by decide +kernel)
  have hat40 : ∀ w ∈ (vx_atS RX3 40 "java/lang/IllegalStateException" ["java/lang/RuntimeException", "java/lang/Exception"]).filter goodWord, w.before args s = true := fun w h => hts w (List.mem_cons_of_mem _ (List.mem_append_right _ h))
  have hl : lv_has ls 1 [(0, .ref (ad 0))] := hl
  unfold X3_addState at hf
  refine lv_aload_n hx hb dX3_addState_0 rfl (lv_at hl 0 rfl) ?_
  refine va_get (D := D) (ci := 3) (v := .ref (ad 1)) (C := RX3) (T := TX3) (N := 3) hx hb hts hiX3 hown hK hP 0 rfl rfl 0 (by decide) f12 (fun _ h9 => h9) rfl dX3_addState_1 ?_
  refine va_get (D := D) (ci := 1) (v := .int c_states) (C := RX1) (T := TX1) (N := 13) hx hb hts hiX1 hown hK hP 1 rfl rfl 0 (by decide) f32 (fun _ h9 => h9) rfl dX3_addState_4 ?_
  refine lv_bipush (v := (12 : Int32)) hx hb dX3_addState_7 (by decide) ?_
  refine lv_icmp_lt (tgt := 22) hx hb dX3_addState_9 (by decide) (fun hc => ?_) (fun hc => ?_)
  · have hf := pr_t hf hc
    refine lv_aload_n hx hb dX3_addState_22 rfl (lv_at hl 0 rfl) ?_
    refine va_get (D := D) (ci := 3) (v := .ref (ad 3)) (C := RX3) (T := TX3) (N := 3) hx hb hts hiX3 hown hK hP 0 rfl rfl 2 (by decide) f28 (fun _ h9 => h9) rfl dX3_addState_23 ?_
    refine lv_iconst (v := (0 : Int32)) hx hb dX3_addState_26 (by decide) ?_
    refine va_put (D := D) (ci := 2) (v := .int (0 : Int32)) (ty := .boolean) (C := RX2) (T := TX2) (N := 10) hx hb hts hiX2 tyX2 tyX2_ok nmX2 hown hK hP hD hS 3 rfl rfl 1 (by decide) f43 (fun _ h9 => h9) rfl (by decide +kernel) rfl rfl (Nat.le_of_ble_eq_true rfl) dX3_addState_27 (fun H locs hP hD hS => ?_)
    have hP : va_P D vwCl (CW ad ca c_states c_transitions c_timerEvent c_from c_event c_next c_variable c_relation c_number c_actions c_kind c_a c_b c_present c_now c_emits c_kept c_ignores c_values c_due c_outputs c_fired (0 : Int32) c_classes c_size c_taken c_stateClass c_finerClass c_usedBits c_offsets c_owners) H := hP
    have hD : va_D A (CW ad ca c_states c_transitions c_timerEvent c_from c_event c_next c_variable c_relation c_number c_actions c_kind c_a c_b c_present c_now c_emits c_kept c_ignores c_values c_due c_outputs c_fired (0 : Int32) c_classes c_size c_taken c_stateClass c_finerClass c_usedBits c_offsets c_owners) := hD
    refine lv_aload_n hx hb dX3_addState_30 rfl (lv_at hl 0 rfl) ?_
    refine va_get (D := D) (ci := 3) (v := .ref (ad 1)) (C := RX3) (T := TX3) (N := 3) hx hb hts hiX3 hown hK hP 0 rfl rfl 0 (by decide) f12 (fun _ h9 => h9) rfl dX3_addState_31 ?_
    refine lv_dup hx hb dX3_addState_34 rfl ?_
    refine va_get (D := D) (ci := 1) (v := .int c_states) (C := RX1) (T := TX1) (N := 13) hx hb hts hiX1 hown hK hP 1 rfl rfl 0 (by decide) f32 (fun _ h9 => h9) rfl dX3_addState_35 ?_
    refine lv_iconst (v := (1 : Int32)) hx hb dX3_addState_38 (by decide) ?_
    refine lv_iadd hx hb dX3_addState_39 ?_
    refine va_put (D := D) (ci := 1) (v := .int (c_states + (1 : Int32))) (ty := .int) (C := RX1) (T := TX1) (N := 13) hx hb hts hiX1 tyX1 tyX1_ok nmX1 hown hK hP hD hS 1 rfl rfl 0 (by decide) f32 (fun _ h9 => h9) rfl (by decide +kernel) rfl rfl (Nat.le_of_ble_eq_true rfl) dX3_addState_40 (fun H locs hP hD hS => ?_)
    have hP : va_P D vwCl (CW ad ca (c_states + (1 : Int32)) c_transitions c_timerEvent c_from c_event c_next c_variable c_relation c_number c_actions c_kind c_a c_b c_present c_now c_emits c_kept c_ignores c_values c_due c_outputs c_fired (0 : Int32) c_classes c_size c_taken c_stateClass c_finerClass c_usedBits c_offsets c_owners) H := hP
    have hD : va_D A (CW ad ca (c_states + (1 : Int32)) c_transitions c_timerEvent c_from c_event c_next c_variable c_relation c_number c_actions c_kind c_a c_b c_present c_now c_emits c_kept c_ignores c_values c_due c_outputs c_fired (0 : Int32) c_classes c_size c_taken c_stateClass c_finerClass c_usedBits c_offsets c_owners) := hD
    refine lv_aload_n hx hb dX3_addState_43 rfl (lv_at hl 0 rfl) ?_
    refine va_get (D := D) (ci := 3) (v := .ref (ad 1)) (C := RX3) (T := TX3) (N := 3) hx hb hts hiX3 hown hK hP 0 rfl rfl 0 (by decide) f12 (fun _ h9 => h9) rfl dX3_addState_44 ?_
    refine va_get (D := D) (ci := 1) (v := .int (c_states + (1 : Int32))) (C := RX1) (T := TX1) (N := 13) hx hb hts hiX1 hown hK hP 1 rfl rfl 0 (by decide) f32 (fun _ h9 => h9) rfl dX3_addState_47 ?_
    refine lv_iconst (v := (1 : Int32)) hx hb dX3_addState_50 (by decide) ?_
    refine lv_isub hx hb dX3_addState_51 ?_
    obtain rfl := Option.some.inj hf
    subst hZ
    exact px_ri hx hb hr hlocks rfl rfl hK hP hD hS (Nat.le_of_ble_eq_true rfl) (Nat.le_of_ble_eq_true rfl) dX3_addState_52
  · have hf := pr_f hf hc
    obtain rfl := Option.some.inj hf
    subst hZ
    exact px_throw (cls := "java/lang/IllegalStateException") (text := "there are 12 states") hx hb hst hown kc36 ki36 hat40 (by decide +kernel) (by decide +kernel) (by decide +kernel) (by decide +kernel) (by decide +kernel) hT hS hK hP hD (hl.1.trans hml.symm) dX3_addState_12 dX3_addState_15 dX3_addState_16 dX3_addState_18 dX3_addState_21 hex (Nat.le_of_ble_eq_true rfl) (Nat.le_of_ble_eq_true rfl) (Nat.le_of_ble_eq_true rfl) (Nat.le_of_ble_eq_true rfl) hlocks rfl (Nat.le_of_ble_eq_true rfl) (Nat.le_of_ble_eq_true rfl)
abbrev rmX3_addTransition : Room := { frames := 6, cells := 1, slots := 6, locals := 90 }
set_option maxHeartbeats 4000000 in
set_option maxRecDepth 100000 in
theorem c_X3_addTransition {l : Launch} {D : va_G} {ad : Nat → Nat} {ca : Nat → ClassId} (hst : l.stackTraces = false) (c_states c_transitions : Int32) (c_timerEvent c_from c_event c_next c_variable c_relation c_number c_actions c_kind c_a c_b : Nat → Int32) (c_present : Int32) (c_now : Int64) (c_emits c_kept c_ignores : Int32) (c_values : Nat → Int32) (c_due : Nat → Int64) (c_outputs c_fired : Nat → Int32) (c_made c_classes c_size c_taken : Int32) (c_stateClass c_finerClass c_usedBits c_offsets c_owners : Nat → Int32) (v1 v2 v3 v4 v5 v6 : Int32) {o : String ⊕ (Int32 × Int32 × (Nat → Int32) × (Nat → Int32) × (Nat → Int32) × (Nat → Int32) × (Nat → Int32) × (Nat → Int32) × (Nat → Int32) × (Nat → Int32) × Int32)} (hf : X3_addTransition c_states c_transitions c_from c_event c_next c_variable c_relation c_number c_actions c_fired c_made v1 v2 v3 v4 v5 v6 = some o) : Xi l yX3_addTransition wsX3_addTransition rmX3_addTransition D (CT ca) (CW ad ca c_states c_transitions c_timerEvent c_from c_event c_next c_variable c_relation c_number c_actions c_kind c_a c_b c_present c_now c_emits c_kept c_ignores c_values c_due c_outputs c_fired c_made c_classes c_size c_taken c_stateClass c_finerClass c_usedBits c_offsets c_owners) [.ref (ad 0), .int v1, .int v2, .int v3, .int v4, .int v5, .int v6] o (fun (u : Int32 × Int32 × (Nat → Int32) × (Nat → Int32) × (Nat → Int32) × (Nat → Int32) × (Nat → Int32) × (Nat → Int32) × (Nat → Int32) × (Nat → Int32) × Int32) => u.1) (fun (u : Int32 × Int32 × (Nat → Int32) × (Nat → Int32) × (Nat → Int32) × (Nat → Int32) × (Nat → Int32) × (Nat → Int32) × (Nat → Int32) × (Nat → Int32) × Int32) => (CW ad ca c_states u.2.1 c_timerEvent u.2.2.1 u.2.2.2.1 u.2.2.2.2.1 u.2.2.2.2.2.1 u.2.2.2.2.2.2.1 u.2.2.2.2.2.2.2.1 u.2.2.2.2.2.2.2.2.1 c_kind c_a c_b c_present c_now c_emits c_kept c_ignores c_values c_due c_outputs u.2.2.2.2.2.2.2.2.2.1 u.2.2.2.2.2.2.2.2.2.2 c_classes c_size c_taken c_stateClass c_finerClass c_usedBits c_offsets c_owners)) := by
  intro sz
  refine px_entry (Qc := fun A => px_Qi D (CT ca) (fun (u : Int32 × Int32 × (Nat → Int32) × (Nat → Int32) × (Nat → Int32) × (Nat → Int32) × (Nat → Int32) × (Nat → Int32) × (Nat → Int32) × (Nat → Int32) × Int32) => (CW ad ca c_states u.2.1 c_timerEvent u.2.2.1 u.2.2.2.1 u.2.2.2.2.1 u.2.2.2.2.2.1 u.2.2.2.2.2.2.1 u.2.2.2.2.2.2.2.1 u.2.2.2.2.2.2.2.2.1 c_kind c_a c_b c_present c_now c_emits c_kept c_ignores c_values c_due c_outputs u.2.2.2.2.2.2.2.2.2.1 u.2.2.2.2.2.2.2.2.2.2 c_classes c_size c_taken c_stateClass c_finerClass c_usedBits c_offsets c_owners)) A o (fun (u : Int32 × Int32 × (Nat → Int32) × (Nat → Int32) × (Nat → Int32) × (Nat → Int32) × (Nat → Int32) × (Nat → Int32) × (Nat → Int32) × (Nat → Int32) × Int32) => u.1)) (XC := fun A => px_X D (CT ca) (CW ad ca c_states c_transitions c_timerEvent c_from c_event c_next c_variable c_relation c_number c_actions c_kind c_a c_b c_present c_now c_emits c_kept c_ignores c_values c_due c_outputs c_fired c_made c_classes c_size c_taken c_stateClass c_finerClass c_usedBits c_offsets c_owners) A o) (cc := cX3_addTransition) (maxL := 8) (ret := (some .int)) (by decide) rfl (Nat.le_of_ble_eq_true rfl) ?_ sz
  intro p e s m args below meth c A ls Z H locs hx hb hr hlocks hts hown hml hnm hK hP hD hS hA hl hT hex hZ
  have hown : s.vm.findClass RX3 = some m.cls := hown
  have hiX0 : ∀ w ∈ u_ws RX0 TX0 10, w ∈ wsX3_addTransition := by decide +kernel
  have hiX1 : ∀ w ∈ u_ws RX1 TX1 13, w ∈ wsX3_addTransition := by decide +kernel
  have hiX2 : ∀ w ∈ u_ws RX2 TX2 10, w ∈ wsX3_addTransition := by decide +kernel
  have hiX3 : ∀ w ∈ u_ws RX3 TX3 3, w ∈ wsX3_addTransition := by decide +kernel
  have f12 := hts (.fieldLink RX3 12 "ProtocolMachine" "protocol" "LProtocolMachine$Protocol;") (by decide +kernel)
  have f21 := hts (.fieldLink RX3 21 "ProtocolMachine" "execution" "LProtocolMachine$Execution;") (by decide +kernel)
  have f28 := hts (.fieldLink RX3 28 "ProtocolMachine" "table" "LProtocolMachine$Table;") (by decide +kernel)
  have f32 := hts (.fieldLink RX3 32 "ProtocolMachine$Protocol" "states" "I") (by decide +kernel)
  have f43 := hts (.fieldLink RX3 43 "ProtocolMachine$Table" "made" "Z") (by decide +kernel)
  have f69 := hts (.fieldLink RX3 69 "ProtocolMachine$Protocol" "transitions" "I") (by decide +kernel)
  have f82 := hts (.fieldLink RX3 82 "ProtocolMachine$Execution" "fired" "[I") (by decide +kernel)
  have kc36 := hts (.classLink RX3 36 "java/lang/IllegalStateException") (by decide +kernel)
  have kc51 := hts (.classLink RX3 51 "java/lang/IndexOutOfBoundsException") (by decide +kernel)
  have kc64 := hts (.classLink RX3 64 "java/lang/IllegalArgumentException") (by decide +kernel)
  have ki36 := hts (.initialized "java/lang/IllegalStateException") (by decide +kernel)
  have ki51 := hts (.initialized "java/lang/IndexOutOfBoundsException") (by decide +kernel)
  have ki64 := hts (.initialized "java/lang/IllegalArgumentException") (by decide +kernel)
  have hat40 : ∀ w ∈ (vx_atS RX3 40 "java/lang/IllegalStateException" ["java/lang/RuntimeException", "java/lang/Exception"]).filter goodWord, w.before args s = true := fun w h => hts w (List.mem_cons_of_mem _ (List.mem_append_right _ h))
  have hat55 : ∀ w ∈ (vx_atS RX3 55 "java/lang/IndexOutOfBoundsException" ["java/lang/RuntimeException", "java/lang/Exception"]).filter goodWord, w.before args s = true := fun w h => hts w (List.mem_cons_of_mem _ (List.mem_append_left _ (List.mem_append_left _ (List.mem_append_right _ h))))
  have hat68 : ∀ w ∈ (vx_atS RX3 68 "java/lang/IllegalArgumentException" ["java/lang/RuntimeException", "java/lang/Exception"]).filter goodWord, w.before args s = true := fun w h => hts w (List.mem_cons_of_mem _ (List.mem_append_left _ (List.mem_append_right _ h)))
  have hl : lv_has ls 8 [(0, .ref (ad 0)), (1, .int v1), (2, .int v2), (3, .int v3), (4, .int v4), (5, .int v5), (6, .int v6)] := hl
  have B177 : ∀ (c_transitions : Int32) (c_from c_event c_next c_variable c_relation c_number c_actions : Nat → Int32) (c_made v7 : Int32) (H : Heap) (locs : List Loc) (ls : Array Slot), va_P D vwCl (CW ad ca c_states c_transitions c_timerEvent c_from c_event c_next c_variable c_relation c_number c_actions c_kind c_a c_b c_present c_now c_emits c_kept c_ignores c_values c_due c_outputs c_fired c_made c_classes c_size c_taken c_stateClass c_finerClass c_usedBits c_offsets c_owners) H → va_D A (CW ad ca c_states c_transitions c_timerEvent c_from c_event c_next c_variable c_relation c_number c_actions c_kind c_a c_b c_present c_now c_emits c_kept c_ignores c_values c_due c_outputs c_fired c_made c_classes c_size c_taken c_stateClass c_finerClass c_usedBits c_offsets c_owners) → va_S A s.heap H locs → lv_has ls 8 [(0, .ref (ad 0)), (7, .int v7)] → X3_addTransition_B177 c_fired c_transitions c_from c_event c_next c_variable c_relation c_number c_actions c_made v7 = some o → W p l e rmX3_addTransition s m args below meth c H locs 0 0 Z (F0 m 177 ls []) := by
    intro c_transitions c_from c_event c_next c_variable c_relation c_number c_actions c_made v7 H locs ls hP hD hS hl hf
    unfold X3_addTransition_B177 at hf
    refine lv_aload_n hx hb dX3_addTransition_177 rfl (lv_at hl 0 rfl) ?_
    refine va_get (D := D) (ci := 3) (v := .ref (ad 2)) (C := RX3) (T := TX3) (N := 3) hx hb hts hiX3 hown hK hP 0 rfl rfl 1 (by decide) f21 (fun _ h9 => h9) rfl dX3_addTransition_178 ?_
    refine va_get (D := D) (ci := 0) (v := .ref (ad 18)) (C := RX0) (T := TX0) (N := 10) hx hb hts hiX0 hown hK hP 2 rfl rfl 9 (by decide) f82 (fun _ h9 => h9) rfl dX3_addTransition_181 ?_
    refine lv_iload hx hb dX3_addTransition_184 (lv_at hl 1 rfl) ?_
    refine lv_iconst (v := (0 : Int32)) hx hb dX3_addTransition_186 (by decide) ?_
    obtain ⟨hi187, hf⟩ := pr_in hf
    refine va_iast hx hb hK hP hD hS 18 14 rfl rfl hi187 dX3_addTransition_187 (fun H locs hP hD hS => ?_)
    have hP : va_P D vwCl (CW ad ca c_states c_transitions c_timerEvent c_from c_event c_next c_variable c_relation c_number c_actions c_kind c_a c_b c_present c_now c_emits c_kept c_ignores c_values c_due c_outputs (upd c_fired v7.toNatClampNeg (0 : Int32)) c_made c_classes c_size c_taken c_stateClass c_finerClass c_usedBits c_offsets c_owners) H := hP
    have hD : va_D A (CW ad ca c_states c_transitions c_timerEvent c_from c_event c_next c_variable c_relation c_number c_actions c_kind c_a c_b c_present c_now c_emits c_kept c_ignores c_values c_due c_outputs (upd c_fired v7.toNatClampNeg (0 : Int32)) c_made c_classes c_size c_taken c_stateClass c_finerClass c_usedBits c_offsets c_owners) := hD
    refine lv_iload hx hb dX3_addTransition_188 (lv_at hl 1 rfl) ?_
    obtain rfl := Option.some.inj hf
    subst hZ
    exact px_ri hx hb hr hlocks rfl rfl hK hP hD hS (Nat.le_of_ble_eq_true rfl) (Nat.le_of_ble_eq_true rfl) dX3_addTransition_190
  have B115 : ∀  (H : Heap) (locs : List Loc) (ls : Array Slot), va_P D vwCl (CW ad ca c_states c_transitions c_timerEvent c_from c_event c_next c_variable c_relation c_number c_actions c_kind c_a c_b c_present c_now c_emits c_kept c_ignores c_values c_due c_outputs c_fired c_made c_classes c_size c_taken c_stateClass c_finerClass c_usedBits c_offsets c_owners) H → va_D A (CW ad ca c_states c_transitions c_timerEvent c_from c_event c_next c_variable c_relation c_number c_actions c_kind c_a c_b c_present c_now c_emits c_kept c_ignores c_values c_due c_outputs c_fired c_made c_classes c_size c_taken c_stateClass c_finerClass c_usedBits c_offsets c_owners) → va_S A s.heap H locs → lv_has ls 8 [(0, .ref (ad 0)), (1, .int v1), (2, .int v2), (3, .int v3), (4, .int v4), (5, .int v5), (6, .int v6)] → X3_addTransition_B115 c_transitions c_from c_event c_next c_variable c_relation c_number c_actions c_fired v1 v2 v3 v4 v5 v6  = some o → W p l e rmX3_addTransition s m args below meth c H locs 0 0 Z (F0 m 115 ls []) := by
    intro  H locs ls hP hD hS hl hf
    unfold X3_addTransition_B115 at hf
    refine lv_aload_n hx hb dX3_addTransition_115 rfl (lv_at hl 0 rfl) ?_
    refine va_get (D := D) (ci := 3) (v := .ref (ad 1)) (C := RX3) (T := TX3) (N := 3) hx hb hts hiX3 hown hK hP 0 rfl rfl 0 (by decide) f12 (fun _ h9 => h9) rfl dX3_addTransition_116 ?_
    refine va_get (D := D) (ci := 1) (v := .int c_transitions) (C := RX1) (T := TX1) (N := 13) hx hb hts hiX1 hown hK hP 1 rfl rfl 1 (by decide) f69 (fun _ h9 => h9) rfl dX3_addTransition_119 ?_
    refine lv_bipush (v := (40 : Int32)) hx hb dX3_addTransition_122 (by decide) ?_
    refine lv_icmp_lt (tgt := 137) hx hb dX3_addTransition_124 (by decide) (fun hc => ?_) (fun hc => ?_)
    · have hf := pr_t hf hc
      refine lv_aload_n hx hb dX3_addTransition_137 rfl (lv_at hl 0 rfl) ?_
      refine va_get (D := D) (ci := 3) (v := .ref (ad 3)) (C := RX3) (T := TX3) (N := 3) hx hb hts hiX3 hown hK hP 0 rfl rfl 2 (by decide) f28 (fun _ h9 => h9) rfl dX3_addTransition_138 ?_
      refine lv_iconst (v := (0 : Int32)) hx hb dX3_addTransition_141 (by decide) ?_
      refine va_put (D := D) (ci := 2) (v := .int (0 : Int32)) (ty := .boolean) (C := RX2) (T := TX2) (N := 10) hx hb hts hiX2 tyX2 tyX2_ok nmX2 hown hK hP hD hS 3 rfl rfl 1 (by decide) f43 (fun _ h9 => h9) rfl (by decide +kernel) rfl rfl (Nat.le_of_ble_eq_true rfl) dX3_addTransition_142 (fun H locs hP hD hS => ?_)
      have hP : va_P D vwCl (CW ad ca c_states c_transitions c_timerEvent c_from c_event c_next c_variable c_relation c_number c_actions c_kind c_a c_b c_present c_now c_emits c_kept c_ignores c_values c_due c_outputs c_fired (0 : Int32) c_classes c_size c_taken c_stateClass c_finerClass c_usedBits c_offsets c_owners) H := hP
      have hD : va_D A (CW ad ca c_states c_transitions c_timerEvent c_from c_event c_next c_variable c_relation c_number c_actions c_kind c_a c_b c_present c_now c_emits c_kept c_ignores c_values c_due c_outputs c_fired (0 : Int32) c_classes c_size c_taken c_stateClass c_finerClass c_usedBits c_offsets c_owners) := hD
      refine lv_aload_n hx hb dX3_addTransition_145 rfl (lv_at hl 0 rfl) ?_
      refine va_get (D := D) (ci := 3) (v := .ref (ad 1)) (C := RX3) (T := TX3) (N := 3) hx hb hts hiX3 hown hK hP 0 rfl rfl 0 (by decide) f12 (fun _ h9 => h9) rfl dX3_addTransition_146 ?_
      refine lv_iload_n hx hb dX3_addTransition_149 rfl (lv_at hl 1 rfl) ?_
      refine lv_iload_n hx hb dX3_addTransition_150 rfl (lv_at hl 2 rfl) ?_
      refine lv_iload hx hb dX3_addTransition_151 (lv_at hl 6 rfl) ?_
      obtain ⟨x153, hg153, hf⟩ := pr_b hf
      refine pw_cViW (b := ad 1) (As := [.int v1, .int v2, .int v6]) (rest := []) ⟨hx, hb, hml, hown, hts⟩ (c_X1_append (D := D) c_states c_transitions c_timerEvent c_from c_event c_next c_variable c_relation c_number c_actions c_kind c_a c_b c_present c_now c_emits c_kept c_ignores c_values c_due c_outputs c_fired (0 : Int32) c_classes c_size c_taken c_stateClass c_finerClass c_usedBits c_offsets c_owners v1 v2 v6 hg153) (cwV 3 hts gX3_addTransition_X1_append rfl rfl rfl (by decide +kernel) ⟨Nat.le_of_ble_eq_true rfl, Nat.le_of_ble_eq_true rfl⟩) 1 1 rfl rfl hK hP hD hS hA rfl hl.1 rfl (Nat.le_of_ble_eq_true rfl) dX3_addTransition_153 ⟨Nat.le_of_ble_eq_true rfl, Nat.le_of_ble_eq_true rfl⟩ (fun H locs hP hD hS => ?_)
      have hP : va_P D vwCl (CW ad ca c_states x153.2.1 c_timerEvent x153.2.2.1 x153.2.2.2.1 x153.2.2.2.2.1 x153.2.2.2.2.2.1 x153.2.2.2.2.2.2.1 x153.2.2.2.2.2.2.2.1 x153.2.2.2.2.2.2.2.2 c_kind c_a c_b c_present c_now c_emits c_kept c_ignores c_values c_due c_outputs c_fired (0 : Int32) c_classes c_size c_taken c_stateClass c_finerClass c_usedBits c_offsets c_owners) H := hP
      have hD : va_D A (CW ad ca c_states x153.2.1 c_timerEvent x153.2.2.1 x153.2.2.2.1 x153.2.2.2.2.1 x153.2.2.2.2.2.1 x153.2.2.2.2.2.2.1 x153.2.2.2.2.2.2.2.1 x153.2.2.2.2.2.2.2.2 c_kind c_a c_b c_present c_now c_emits c_kept c_ignores c_values c_due c_outputs c_fired (0 : Int32) c_classes c_size c_taken c_stateClass c_finerClass c_usedBits c_offsets c_owners) := hD
      refine lv_istore (lv' := [(7, .int x153.1), (0, .ref (ad 0)), (1, .int v1), (2, .int v2), (3, .int v3), (4, .int v4), (5, .int v5), (6, .int v6)]) hx hb dX3_addTransition_156 hl (by decide) rfl (fun ls hl => ?_)
      refine lv_iload_n hx hb dX3_addTransition_158 rfl (lv_at hl 4 rfl) ?_
      refine lv_iconst (v := (-1 : Int32)) hx hb dX3_addTransition_159 (by decide) ?_
      refine lv_icmp_eq (tgt := 177) hx hb dX3_addTransition_160 (by decide) (fun hc => ?_) (fun hc => ?_)
      · have hf := pr_t hf hc
        exact B177 x153.2.1 x153.2.2.1 x153.2.2.2.1 x153.2.2.2.2.1 x153.2.2.2.2.2.1 x153.2.2.2.2.2.2.1 x153.2.2.2.2.2.2.2.1 x153.2.2.2.2.2.2.2.2 (0 : Int32) x153.1 H locs ls hP hD hS (lv_sub hl [1, 0] rfl) hf
      · have hf := pr_f hf hc
        refine lv_aload_n hx hb dX3_addTransition_163 rfl (lv_at hl 1 rfl) ?_
        refine va_get (D := D) (ci := 3) (v := .ref (ad 1)) (C := RX3) (T := TX3) (N := 3) hx hb hts hiX3 hown hK hP 0 rfl rfl 0 (by decide) f12 (fun _ h9 => h9) rfl dX3_addTransition_164 ?_
        refine lv_iload hx hb dX3_addTransition_167 (lv_at hl 0 rfl) ?_
        refine lv_iload_n hx hb dX3_addTransition_169 rfl (lv_at hl 4 rfl) ?_
        refine lv_iload hx hb dX3_addTransition_170 (lv_at hl 5 rfl) ?_
        refine lv_iload hx hb dX3_addTransition_172 (lv_at hl 6 rfl) ?_
        obtain ⟨x174, hg174, hf⟩ := pr_b hf
        refine pw_cVvW (b := ad 1) (As := [.int x153.1, .int v3, .int v4, .int v5]) (rest := []) ⟨hx, hb, hml, hown, hts⟩ (c_X1_guard (D := D) c_states x153.2.1 c_timerEvent x153.2.2.1 x153.2.2.2.1 x153.2.2.2.2.1 x153.2.2.2.2.2.1 x153.2.2.2.2.2.2.1 x153.2.2.2.2.2.2.2.1 x153.2.2.2.2.2.2.2.2 c_kind c_a c_b c_present c_now c_emits c_kept c_ignores c_values c_due c_outputs c_fired (0 : Int32) c_classes c_size c_taken c_stateClass c_finerClass c_usedBits c_offsets c_owners x153.1 v3 v4 v5 hg174) (cwV 4 hts gX3_addTransition_X1_guard rfl rfl rfl (by decide +kernel) ⟨Nat.le_of_ble_eq_true rfl, Nat.le_of_ble_eq_true rfl⟩) 1 1 rfl rfl hK hP hD hS hA rfl hl.1 rfl (Nat.le_of_ble_eq_true rfl) dX3_addTransition_174 ⟨Nat.le_of_ble_eq_true rfl, Nat.le_of_ble_eq_true rfl⟩ (fun H locs hP hD hS => ?_)
        have hP : va_P D vwCl (CW ad ca c_states x153.2.1 c_timerEvent x153.2.2.1 x153.2.2.2.1 x153.2.2.2.2.1 x174.1 x174.2.1 x174.2.2 x153.2.2.2.2.2.2.2.2 c_kind c_a c_b c_present c_now c_emits c_kept c_ignores c_values c_due c_outputs c_fired (0 : Int32) c_classes c_size c_taken c_stateClass c_finerClass c_usedBits c_offsets c_owners) H := hP
        have hD : va_D A (CW ad ca c_states x153.2.1 c_timerEvent x153.2.2.1 x153.2.2.2.1 x153.2.2.2.2.1 x174.1 x174.2.1 x174.2.2 x153.2.2.2.2.2.2.2.2 c_kind c_a c_b c_present c_now c_emits c_kept c_ignores c_values c_due c_outputs c_fired (0 : Int32) c_classes c_size c_taken c_stateClass c_finerClass c_usedBits c_offsets c_owners) := hD
        exact B177 x153.2.1 x153.2.2.1 x153.2.2.2.1 x153.2.2.2.2.1 x174.1 x174.2.1 x174.2.2 x153.2.2.2.2.2.2.2.2 (0 : Int32) x153.1 H locs ls hP hD hS (lv_sub hl [1, 0] rfl) hf
    · have hf := pr_f hf hc
      obtain rfl := Option.some.inj hf
      subst hZ
      exact px_throw (cls := "java/lang/IllegalStateException") (text := "there are 40 transitions") hx hb hst hown kc36 ki36 hat40 (by decide +kernel) (by decide +kernel) (by decide +kernel) (by decide +kernel) (by decide +kernel) hT hS hK hP hD (hl.1.trans hml.symm) dX3_addTransition_127 dX3_addTransition_130 dX3_addTransition_131 dX3_addTransition_133 dX3_addTransition_136 hex (Nat.le_of_ble_eq_true rfl) (Nat.le_of_ble_eq_true rfl) (Nat.le_of_ble_eq_true rfl) (Nat.le_of_ble_eq_true rfl) hlocks rfl (Nat.le_of_ble_eq_true rfl) (Nat.le_of_ble_eq_true rfl)
  have B81 : ∀  (H : Heap) (locs : List Loc) (ls : Array Slot), va_P D vwCl (CW ad ca c_states c_transitions c_timerEvent c_from c_event c_next c_variable c_relation c_number c_actions c_kind c_a c_b c_present c_now c_emits c_kept c_ignores c_values c_due c_outputs c_fired c_made c_classes c_size c_taken c_stateClass c_finerClass c_usedBits c_offsets c_owners) H → va_D A (CW ad ca c_states c_transitions c_timerEvent c_from c_event c_next c_variable c_relation c_number c_actions c_kind c_a c_b c_present c_now c_emits c_kept c_ignores c_values c_due c_outputs c_fired c_made c_classes c_size c_taken c_stateClass c_finerClass c_usedBits c_offsets c_owners) → va_S A s.heap H locs → lv_has ls 8 [(0, .ref (ad 0)), (1, .int v1), (2, .int v2), (3, .int v3), (4, .int v4), (5, .int v5), (6, .int v6)] → X3_addTransition_B81 c_transitions c_from c_event c_next c_variable c_relation c_number c_actions c_fired v1 v2 v3 v4 v5 v6  = some o → W p l e rmX3_addTransition s m args below meth c H locs 0 0 Z (F0 m 81 ls []) := by
    intro  H locs ls hP hD hS hl hf
    unfold X3_addTransition_B81 at hf
    refine lv_iload_n hx hb dX3_addTransition_81 rfl (lv_at hl 3 rfl) ?_
    refine lv_iconst (v := (-1 : Int32)) hx hb dX3_addTransition_82 (by decide) ?_
    refine lv_icmp_eq (tgt := 115) hx hb dX3_addTransition_83 (by decide) (fun hc => ?_) (fun hc => ?_)
    · have hf := pr_t hf hc
      exact B115 H locs ls hP hD hS (lv_sub hl [0, 1, 2, 3, 4, 5, 6] rfl) hf
    · have hf := pr_f hf hc
      refine lv_iload hx hb dX3_addTransition_86 (lv_at hl 4 rfl) ?_
      refine lv_if_lt (tgt := 105) hx hb dX3_addTransition_88 (by decide) (fun hc => ?_) (fun hc => ?_)
      · have hf := pr_t hf hc
        obtain rfl := Option.some.inj hf
        subst hZ
        exact px_throw (cls := "java/lang/IllegalArgumentException") (text := "there is no such guard") hx hb hst hown kc64 ki64 hat68 (by decide +kernel) (by decide +kernel) (by decide +kernel) (by decide +kernel) (by decide +kernel) hT hS hK hP hD (hl.1.trans hml.symm) dX3_addTransition_105 dX3_addTransition_108 dX3_addTransition_109 dX3_addTransition_111 dX3_addTransition_114 hex (Nat.le_of_ble_eq_true rfl) (Nat.le_of_ble_eq_true rfl) (Nat.le_of_ble_eq_true rfl) (Nat.le_of_ble_eq_true rfl) hlocks rfl (Nat.le_of_ble_eq_true rfl) (Nat.le_of_ble_eq_true rfl)
      · have hf := pr_f hf hc
        refine lv_iload hx hb dX3_addTransition_91 (lv_at hl 4 rfl) ?_
        refine lv_iconst (v := (2 : Int32)) hx hb dX3_addTransition_93 (by decide) ?_
        refine lv_icmp_gt (tgt := 105) hx hb dX3_addTransition_94 (by decide) (fun hc => ?_) (fun hc => ?_)
        · have hf := pr_t hf hc
          obtain rfl := Option.some.inj hf
          subst hZ
          exact px_throw (cls := "java/lang/IllegalArgumentException") (text := "there is no such guard") hx hb hst hown kc64 ki64 hat68 (by decide +kernel) (by decide +kernel) (by decide +kernel) (by decide +kernel) (by decide +kernel) hT hS hK hP hD (hl.1.trans hml.symm) dX3_addTransition_105 dX3_addTransition_108 dX3_addTransition_109 dX3_addTransition_111 dX3_addTransition_114 hex (Nat.le_of_ble_eq_true rfl) (Nat.le_of_ble_eq_true rfl) (Nat.le_of_ble_eq_true rfl) (Nat.le_of_ble_eq_true rfl) hlocks rfl (Nat.le_of_ble_eq_true rfl) (Nat.le_of_ble_eq_true rfl)
        · have hf := pr_f hf hc
          refine lv_iload hx hb dX3_addTransition_97 (lv_at hl 5 rfl) ?_
          obtain ⟨x99, hg99, hf⟩ := pr_b hf
          refine pw_cSiE (As := [.int v5]) (rest := []) ⟨hx, hb, hml, hown, hts⟩ (c_X3_isNumber (D := D) (tys := (CT ca)) v5 hg99) (va_cwS 1 hts gX3_addTransition_X3_isNumber rfl rfl rfl (by decide +kernel) ⟨Nat.le_of_ble_eq_true rfl, Nat.le_of_ble_eq_true rfl⟩) hK hP hD hS hA rfl hl.1 rfl (Nat.le_of_ble_eq_true rfl) dX3_addTransition_99 ⟨Nat.le_of_ble_eq_true rfl, Nat.le_of_ble_eq_true rfl⟩ (fun H locs hP hD hS => ?_)
          refine lv_if_ne (tgt := 115) hx hb dX3_addTransition_102 (by decide) (fun hc => ?_) (fun hc => ?_)
          · have hf := pr_f hf hc
            exact B115 H locs ls hP hD hS (lv_sub hl [0, 1, 2, 3, 4, 5, 6] rfl) hf
          · have hf := pr_t hf hc
            obtain rfl := Option.some.inj hf
            subst hZ
            exact px_throw (cls := "java/lang/IllegalArgumentException") (text := "there is no such guard") hx hb hst hown kc64 ki64 hat68 (by decide +kernel) (by decide +kernel) (by decide +kernel) (by decide +kernel) (by decide +kernel) hT hS hK hP hD (hl.1.trans hml.symm) dX3_addTransition_105 dX3_addTransition_108 dX3_addTransition_109 dX3_addTransition_111 dX3_addTransition_114 hex (Nat.le_of_ble_eq_true rfl) (Nat.le_of_ble_eq_true rfl) (Nat.le_of_ble_eq_true rfl) (Nat.le_of_ble_eq_true rfl) hlocks rfl (Nat.le_of_ble_eq_true rfl) (Nat.le_of_ble_eq_true rfl)
  unfold X3_addTransition at hf
  refine lv_iload_n hx hb dX3_addTransition_0 rfl (lv_at hl 1 rfl) ?_
  refine lv_aload_n hx hb dX3_addTransition_1 rfl (lv_at hl 0 rfl) ?_
  refine va_get (D := D) (ci := 3) (v := .ref (ad 1)) (C := RX3) (T := TX3) (N := 3) hx hb hts hiX3 hown hK hP 0 rfl rfl 0 (by decide) f12 (fun _ h9 => h9) rfl dX3_addTransition_2 ?_
  refine va_get (D := D) (ci := 1) (v := .int c_states) (C := RX1) (T := TX1) (N := 13) hx hb hts hiX1 hown hK hP 1 rfl rfl 0 (by decide) f32 (fun _ h9 => h9) rfl dX3_addTransition_5 ?_
  obtain ⟨x8, hg8, hf⟩ := pr_b hf
  refine pw_cSiE (As := [.int v1, .int c_states]) (rest := []) ⟨hx, hb, hml, hown, hts⟩ (c_X3_isBelow (D := D) (tys := (CT ca)) v1 c_states hg8) (va_cwS 2 hts gX3_addTransition_X3_isBelow rfl rfl rfl (by decide +kernel) ⟨Nat.le_of_ble_eq_true rfl, Nat.le_of_ble_eq_true rfl⟩) hK hP hD hS hA rfl hl.1 rfl (Nat.le_of_ble_eq_true rfl) dX3_addTransition_8 ⟨Nat.le_of_ble_eq_true rfl, Nat.le_of_ble_eq_true rfl⟩ (fun H locs hP hD hS => ?_)
  refine lv_if_eq (tgt := 29) hx hb dX3_addTransition_11 (by decide) (fun hc => ?_) (fun hc => ?_)
  · have hf := pr_t hf hc
    obtain rfl := Option.some.inj hf
    subst hZ
    exact px_throw (cls := "java/lang/IndexOutOfBoundsException") (text := "there is no such state") hx hb hst hown kc51 ki51 hat55 (by decide +kernel) (by decide +kernel) (by decide +kernel) (by decide +kernel) (by decide +kernel) hT hS hK hP hD (hl.1.trans hml.symm) dX3_addTransition_29 dX3_addTransition_32 dX3_addTransition_33 dX3_addTransition_35 dX3_addTransition_38 hex (Nat.le_of_ble_eq_true rfl) (Nat.le_of_ble_eq_true rfl) (Nat.le_of_ble_eq_true rfl) (Nat.le_of_ble_eq_true rfl) hlocks rfl (Nat.le_of_ble_eq_true rfl) (Nat.le_of_ble_eq_true rfl)
  · have hf := pr_f hf hc
    refine lv_iload hx hb dX3_addTransition_14 (lv_at hl 6 rfl) ?_
    refine lv_aload_n hx hb dX3_addTransition_16 rfl (lv_at hl 0 rfl) ?_
    refine va_get (D := D) (ci := 3) (v := .ref (ad 1)) (C := RX3) (T := TX3) (N := 3) hx hb hts hiX3 hown hK hP 0 rfl rfl 0 (by decide) f12 (fun _ h9 => h9) rfl dX3_addTransition_17 ?_
    refine va_get (D := D) (ci := 1) (v := .int c_states) (C := RX1) (T := TX1) (N := 13) hx hb hts hiX1 hown hK hP 1 rfl rfl 0 (by decide) f32 (fun _ h9 => h9) rfl dX3_addTransition_20 ?_
    obtain ⟨x23, hg23, hf⟩ := pr_b hf
    refine pw_cSiE (As := [.int v6, .int c_states]) (rest := []) ⟨hx, hb, hml, hown, hts⟩ (c_X3_isBelow (D := D) (tys := (CT ca)) v6 c_states hg23) (va_cwS 2 hts gX3_addTransition_X3_isBelow rfl rfl rfl (by decide +kernel) ⟨Nat.le_of_ble_eq_true rfl, Nat.le_of_ble_eq_true rfl⟩) hK hP hD hS hA rfl hl.1 rfl (Nat.le_of_ble_eq_true rfl) dX3_addTransition_23 ⟨Nat.le_of_ble_eq_true rfl, Nat.le_of_ble_eq_true rfl⟩ (fun H locs hP hD hS => ?_)
    refine lv_if_ne (tgt := 39) hx hb dX3_addTransition_26 (by decide) (fun hc => ?_) (fun hc => ?_)
    · have hf := pr_f hf hc
      refine lv_iload_n hx hb dX3_addTransition_39 rfl (lv_at hl 2 rfl) ?_
      refine lv_bipush (v := (8 : Int32)) hx hb dX3_addTransition_40 (by decide) ?_
      obtain ⟨x42, hg42, hf⟩ := pr_b hf
      refine pw_cSiE (As := [.int v2, .int (8 : Int32)]) (rest := []) ⟨hx, hb, hml, hown, hts⟩ (c_X3_isBelow (D := D) (tys := (CT ca)) v2 (8 : Int32) hg42) (va_cwS 2 hts gX3_addTransition_X3_isBelow rfl rfl rfl (by decide +kernel) ⟨Nat.le_of_ble_eq_true rfl, Nat.le_of_ble_eq_true rfl⟩) hK hP hD hS hA rfl hl.1 rfl (Nat.le_of_ble_eq_true rfl) dX3_addTransition_42 ⟨Nat.le_of_ble_eq_true rfl, Nat.le_of_ble_eq_true rfl⟩ (fun H locs hP hD hS => ?_)
      refine lv_if_ne (tgt := 58) hx hb dX3_addTransition_45 (by decide) (fun hc => ?_) (fun hc => ?_)
      · have hf := pr_f hf hc
        refine lv_iload_n hx hb dX3_addTransition_58 rfl (lv_at hl 3 rfl) ?_
        refine lv_iconst (v := (-1 : Int32)) hx hb dX3_addTransition_59 (by decide) ?_
        refine lv_icmp_eq (tgt := 81) hx hb dX3_addTransition_60 (by decide) (fun hc => ?_) (fun hc => ?_)
        · have hf := pr_t hf hc
          exact B81 H locs ls hP hD hS (lv_sub hl [0, 1, 2, 3, 4, 5, 6] rfl) hf
        · have hf := pr_f hf hc
          refine lv_iload_n hx hb dX3_addTransition_63 rfl (lv_at hl 3 rfl) ?_
          refine lv_iconst (v := (3 : Int32)) hx hb dX3_addTransition_64 (by decide) ?_
          obtain ⟨x65, hg65, hf⟩ := pr_b hf
          refine pw_cSiE (As := [.int v3, .int (3 : Int32)]) (rest := []) ⟨hx, hb, hml, hown, hts⟩ (c_X3_isBelow (D := D) (tys := (CT ca)) v3 (3 : Int32) hg65) (va_cwS 2 hts gX3_addTransition_X3_isBelow rfl rfl rfl (by decide +kernel) ⟨Nat.le_of_ble_eq_true rfl, Nat.le_of_ble_eq_true rfl⟩) hK hP hD hS hA rfl hl.1 rfl (Nat.le_of_ble_eq_true rfl) dX3_addTransition_65 ⟨Nat.le_of_ble_eq_true rfl, Nat.le_of_ble_eq_true rfl⟩ (fun H locs hP hD hS => ?_)
          refine lv_if_ne (tgt := 81) hx hb dX3_addTransition_68 (by decide) (fun hc => ?_) (fun hc => ?_)
          · have hf := pr_f hf hc
            exact B81 H locs ls hP hD hS (lv_sub hl [0, 1, 2, 3, 4, 5, 6] rfl) hf
          · have hf := pr_t hf hc
            obtain rfl := Option.some.inj hf
            subst hZ
            exact px_throw (cls := "java/lang/IndexOutOfBoundsException") (text := "there is no such variable") hx hb hst hown kc51 ki51 hat55 (by decide +kernel) (by decide +kernel) (by decide +kernel) (by decide +kernel) (by decide +kernel) hT hS hK hP hD (hl.1.trans hml.symm) dX3_addTransition_71 dX3_addTransition_74 dX3_addTransition_75 dX3_addTransition_77 dX3_addTransition_80 hex (Nat.le_of_ble_eq_true rfl) (Nat.le_of_ble_eq_true rfl) (Nat.le_of_ble_eq_true rfl) (Nat.le_of_ble_eq_true rfl) hlocks rfl (Nat.le_of_ble_eq_true rfl) (Nat.le_of_ble_eq_true rfl)
      · have hf := pr_t hf hc
        obtain rfl := Option.some.inj hf
        subst hZ
        exact px_throw (cls := "java/lang/IndexOutOfBoundsException") (text := "there is no such event") hx hb hst hown kc51 ki51 hat55 (by decide +kernel) (by decide +kernel) (by decide +kernel) (by decide +kernel) (by decide +kernel) hT hS hK hP hD (hl.1.trans hml.symm) dX3_addTransition_48 dX3_addTransition_51 dX3_addTransition_52 dX3_addTransition_54 dX3_addTransition_57 hex (Nat.le_of_ble_eq_true rfl) (Nat.le_of_ble_eq_true rfl) (Nat.le_of_ble_eq_true rfl) (Nat.le_of_ble_eq_true rfl) hlocks rfl (Nat.le_of_ble_eq_true rfl) (Nat.le_of_ble_eq_true rfl)
    · have hf := pr_t hf hc
      obtain rfl := Option.some.inj hf
      subst hZ
      exact px_throw (cls := "java/lang/IndexOutOfBoundsException") (text := "there is no such state") hx hb hst hown kc51 ki51 hat55 (by decide +kernel) (by decide +kernel) (by decide +kernel) (by decide +kernel) (by decide +kernel) hT hS hK hP hD (hl.1.trans hml.symm) dX3_addTransition_29 dX3_addTransition_32 dX3_addTransition_33 dX3_addTransition_35 dX3_addTransition_38 hex (Nat.le_of_ble_eq_true rfl) (Nat.le_of_ble_eq_true rfl) (Nat.le_of_ble_eq_true rfl) (Nat.le_of_ble_eq_true rfl) hlocks rfl (Nat.le_of_ble_eq_true rfl) (Nat.le_of_ble_eq_true rfl)
abbrev rmX3_addAction : Room := { frames := 6, cells := 1, slots := 6, locals := 90 }
set_option maxHeartbeats 4000000 in
set_option maxRecDepth 100000 in
theorem c_X3_addAction {l : Launch} {D : va_G} {ad : Nat → Nat} {ca : Nat → ClassId} (hst : l.stackTraces = false) (c_states c_transitions : Int32) (c_timerEvent c_from c_event c_next c_variable c_relation c_number c_actions c_kind c_a c_b : Nat → Int32) (c_present : Int32) (c_now : Int64) (c_emits c_kept c_ignores : Int32) (c_values : Nat → Int32) (c_due : Nat → Int64) (c_outputs c_fired : Nat → Int32) (c_made c_classes c_size c_taken : Int32) (c_stateClass c_finerClass c_usedBits c_offsets c_owners : Nat → Int32) (v1 v2 v3 v4 : Int32) {o : String ⊕ (Int32 × (Nat → Int32) × (Nat → Int32) × (Nat → Int32) × (Nat → Int32) × Int32)} (hf : X3_addAction c_transitions c_actions c_kind c_a c_b c_made v1 v2 v3 v4 = some o) : Xi l yX3_addAction wsX3_addAction rmX3_addAction D (CT ca) (CW ad ca c_states c_transitions c_timerEvent c_from c_event c_next c_variable c_relation c_number c_actions c_kind c_a c_b c_present c_now c_emits c_kept c_ignores c_values c_due c_outputs c_fired c_made c_classes c_size c_taken c_stateClass c_finerClass c_usedBits c_offsets c_owners) [.ref (ad 0), .int v1, .int v2, .int v3, .int v4] o (fun (u : Int32 × (Nat → Int32) × (Nat → Int32) × (Nat → Int32) × (Nat → Int32) × Int32) => u.1) (fun (u : Int32 × (Nat → Int32) × (Nat → Int32) × (Nat → Int32) × (Nat → Int32) × Int32) => (CW ad ca c_states c_transitions c_timerEvent c_from c_event c_next c_variable c_relation c_number u.2.1 u.2.2.1 u.2.2.2.1 u.2.2.2.2.1 c_present c_now c_emits c_kept c_ignores c_values c_due c_outputs c_fired u.2.2.2.2.2 c_classes c_size c_taken c_stateClass c_finerClass c_usedBits c_offsets c_owners)) := by
  intro sz
  refine px_entry (Qc := fun A => px_Qi D (CT ca) (fun (u : Int32 × (Nat → Int32) × (Nat → Int32) × (Nat → Int32) × (Nat → Int32) × Int32) => (CW ad ca c_states c_transitions c_timerEvent c_from c_event c_next c_variable c_relation c_number u.2.1 u.2.2.1 u.2.2.2.1 u.2.2.2.2.1 c_present c_now c_emits c_kept c_ignores c_values c_due c_outputs c_fired u.2.2.2.2.2 c_classes c_size c_taken c_stateClass c_finerClass c_usedBits c_offsets c_owners)) A o (fun (u : Int32 × (Nat → Int32) × (Nat → Int32) × (Nat → Int32) × (Nat → Int32) × Int32) => u.1)) (XC := fun A => px_X D (CT ca) (CW ad ca c_states c_transitions c_timerEvent c_from c_event c_next c_variable c_relation c_number c_actions c_kind c_a c_b c_present c_now c_emits c_kept c_ignores c_values c_due c_outputs c_fired c_made c_classes c_size c_taken c_stateClass c_finerClass c_usedBits c_offsets c_owners) A o) (cc := cX3_addAction) (maxL := 5) (ret := (some .int)) (by decide) rfl (Nat.le_of_ble_eq_true rfl) ?_ sz
  intro p e s m args below meth c A ls Z H locs hx hb hr hlocks hts hown hml hnm hK hP hD hS hA hl hT hex hZ
  have hown : s.vm.findClass RX3 = some m.cls := hown
  have hiX1 : ∀ w ∈ u_ws RX1 TX1 13, w ∈ wsX3_addAction := by decide +kernel
  have hiX2 : ∀ w ∈ u_ws RX2 TX2 10, w ∈ wsX3_addAction := by decide +kernel
  have hiX3 : ∀ w ∈ u_ws RX3 TX3 3, w ∈ wsX3_addAction := by decide +kernel
  have f12 := hts (.fieldLink RX3 12 "ProtocolMachine" "protocol" "LProtocolMachine$Protocol;") (by decide +kernel)
  have f28 := hts (.fieldLink RX3 28 "ProtocolMachine" "table" "LProtocolMachine$Table;") (by decide +kernel)
  have f43 := hts (.fieldLink RX3 43 "ProtocolMachine$Table" "made" "Z") (by decide +kernel)
  have f69 := hts (.fieldLink RX3 69 "ProtocolMachine$Protocol" "transitions" "I") (by decide +kernel)
  have f94 := hts (.fieldLink RX3 94 "ProtocolMachine$Protocol" "actions" "[I") (by decide +kernel)
  have kc36 := hts (.classLink RX3 36 "java/lang/IllegalStateException") (by decide +kernel)
  have kc51 := hts (.classLink RX3 51 "java/lang/IndexOutOfBoundsException") (by decide +kernel)
  have kc64 := hts (.classLink RX3 64 "java/lang/IllegalArgumentException") (by decide +kernel)
  have ki36 := hts (.initialized "java/lang/IllegalStateException") (by decide +kernel)
  have ki51 := hts (.initialized "java/lang/IndexOutOfBoundsException") (by decide +kernel)
  have ki64 := hts (.initialized "java/lang/IllegalArgumentException") (by decide +kernel)
  have hat40 : ∀ w ∈ (vx_atS RX3 40 "java/lang/IllegalStateException" ["java/lang/RuntimeException", "java/lang/Exception"]).filter goodWord, w.before args s = true := fun w h => hts w (List.mem_cons_of_mem _ (List.mem_append_right _ h))
  have hat55 : ∀ w ∈ (vx_atS RX3 55 "java/lang/IndexOutOfBoundsException" ["java/lang/RuntimeException", "java/lang/Exception"]).filter goodWord, w.before args s = true := fun w h => hts w (List.mem_cons_of_mem _ (List.mem_append_left _ (List.mem_append_left _ (List.mem_append_right _ h))))
  have hat68 : ∀ w ∈ (vx_atS RX3 68 "java/lang/IllegalArgumentException" ["java/lang/RuntimeException", "java/lang/Exception"]).filter goodWord, w.before args s = true := fun w h => hts w (List.mem_cons_of_mem _ (List.mem_append_left _ (List.mem_append_right _ h)))
  have hl : lv_has ls 5 [(0, .ref (ad 0)), (1, .int v1), (2, .int v2), (3, .int v3), (4, .int v4)] := hl
  unfold X3_addAction at hf
  refine lv_iload_n hx hb dX3_addAction_0 rfl (lv_at hl 1 rfl) ?_
  refine lv_aload_n hx hb dX3_addAction_1 rfl (lv_at hl 0 rfl) ?_
  refine va_get (D := D) (ci := 3) (v := .ref (ad 1)) (C := RX3) (T := TX3) (N := 3) hx hb hts hiX3 hown hK hP 0 rfl rfl 0 (by decide) f12 (fun _ h9 => h9) rfl dX3_addAction_2 ?_
  refine va_get (D := D) (ci := 1) (v := .int c_transitions) (C := RX1) (T := TX1) (N := 13) hx hb hts hiX1 hown hK hP 1 rfl rfl 1 (by decide) f69 (fun _ h9 => h9) rfl dX3_addAction_5 ?_
  obtain ⟨x8, hg8, hf⟩ := pr_b hf
  refine pw_cSiE (As := [.int v1, .int c_transitions]) (rest := []) ⟨hx, hb, hml, hown, hts⟩ (c_X3_isBelow (D := D) (tys := (CT ca)) v1 c_transitions hg8) (va_cwS 2 hts gX3_addAction_X3_isBelow rfl rfl rfl (by decide +kernel) ⟨Nat.le_of_ble_eq_true rfl, Nat.le_of_ble_eq_true rfl⟩) hK hP hD hS hA rfl hl.1 rfl (Nat.le_of_ble_eq_true rfl) dX3_addAction_8 ⟨Nat.le_of_ble_eq_true rfl, Nat.le_of_ble_eq_true rfl⟩ (fun H locs hP hD hS => ?_)
  refine lv_if_ne (tgt := 24) hx hb dX3_addAction_11 (by decide) (fun hc => ?_) (fun hc => ?_)
  · have hf := pr_f hf hc
    refine lv_iload_n hx hb dX3_addAction_24 rfl (lv_at hl 2 rfl) ?_
    refine lv_iload_n hx hb dX3_addAction_25 rfl (lv_at hl 3 rfl) ?_
    refine lv_iload hx hb dX3_addAction_26 (lv_at hl 4 rfl) ?_
    obtain ⟨x28, hg28, hf⟩ := pr_b hf
    refine pw_cSiE (As := [.int v2, .int v3, .int v4]) (rest := []) ⟨hx, hb, hml, hown, hts⟩ (c_X3_isAction (D := D) (tys := (CT ca)) v2 v3 v4 hg28) (va_cwS 3 hts gX3_addAction_X3_isAction rfl rfl rfl (by decide +kernel) ⟨Nat.le_of_ble_eq_true rfl, Nat.le_of_ble_eq_true rfl⟩) hK hP hD hS hA rfl hl.1 rfl (Nat.le_of_ble_eq_true rfl) dX3_addAction_28 ⟨Nat.le_of_ble_eq_true rfl, Nat.le_of_ble_eq_true rfl⟩ (fun H locs hP hD hS => ?_)
    refine lv_if_ne (tgt := 44) hx hb dX3_addAction_31 (by decide) (fun hc => ?_) (fun hc => ?_)
    · have hf := pr_f hf hc
      refine lv_aload_n hx hb dX3_addAction_44 rfl (lv_at hl 0 rfl) ?_
      refine va_get (D := D) (ci := 3) (v := .ref (ad 1)) (C := RX3) (T := TX3) (N := 3) hx hb hts hiX3 hown hK hP 0 rfl rfl 0 (by decide) f12 (fun _ h9 => h9) rfl dX3_addAction_45 ?_
      refine va_get (D := D) (ci := 1) (v := .ref (ad 11)) (C := RX1) (T := TX1) (N := 13) hx hb hts hiX1 hown hK hP 1 rfl rfl 9 (by decide) f94 (fun _ h9 => h9) rfl dX3_addAction_48 ?_
      refine lv_iload_n hx hb dX3_addAction_51 rfl (lv_at hl 1 rfl) ?_
      obtain ⟨hi52, hf⟩ := pr_in hf
      refine va_iald hx hb hK hP 11 7 rfl rfl hi52 dX3_addAction_52 ?_
      refine lv_iconst (v := (3 : Int32)) hx hb dX3_addAction_53 (by decide) ?_
      refine lv_icmp_lt (tgt := 67) hx hb dX3_addAction_54 (by decide) (fun hc => ?_) (fun hc => ?_)
      · have hf := pr_t hf hc
        refine lv_aload_n hx hb dX3_addAction_67 rfl (lv_at hl 0 rfl) ?_
        refine va_get (D := D) (ci := 3) (v := .ref (ad 3)) (C := RX3) (T := TX3) (N := 3) hx hb hts hiX3 hown hK hP 0 rfl rfl 2 (by decide) f28 (fun _ h9 => h9) rfl dX3_addAction_68 ?_
        refine lv_iconst (v := (0 : Int32)) hx hb dX3_addAction_71 (by decide) ?_
        refine va_put (D := D) (ci := 2) (v := .int (0 : Int32)) (ty := .boolean) (C := RX2) (T := TX2) (N := 10) hx hb hts hiX2 tyX2 tyX2_ok nmX2 hown hK hP hD hS 3 rfl rfl 1 (by decide) f43 (fun _ h9 => h9) rfl (by decide +kernel) rfl rfl (Nat.le_of_ble_eq_true rfl) dX3_addAction_72 (fun H locs hP hD hS => ?_)
        have hP : va_P D vwCl (CW ad ca c_states c_transitions c_timerEvent c_from c_event c_next c_variable c_relation c_number c_actions c_kind c_a c_b c_present c_now c_emits c_kept c_ignores c_values c_due c_outputs c_fired (0 : Int32) c_classes c_size c_taken c_stateClass c_finerClass c_usedBits c_offsets c_owners) H := hP
        have hD : va_D A (CW ad ca c_states c_transitions c_timerEvent c_from c_event c_next c_variable c_relation c_number c_actions c_kind c_a c_b c_present c_now c_emits c_kept c_ignores c_values c_due c_outputs c_fired (0 : Int32) c_classes c_size c_taken c_stateClass c_finerClass c_usedBits c_offsets c_owners) := hD
        refine lv_aload_n hx hb dX3_addAction_75 rfl (lv_at hl 0 rfl) ?_
        refine va_get (D := D) (ci := 3) (v := .ref (ad 1)) (C := RX3) (T := TX3) (N := 3) hx hb hts hiX3 hown hK hP 0 rfl rfl 0 (by decide) f12 (fun _ h9 => h9) rfl dX3_addAction_76 ?_
        refine lv_iload_n hx hb dX3_addAction_79 rfl (lv_at hl 1 rfl) ?_
        refine lv_iload_n hx hb dX3_addAction_80 rfl (lv_at hl 2 rfl) ?_
        refine lv_iload_n hx hb dX3_addAction_81 rfl (lv_at hl 3 rfl) ?_
        refine lv_iload hx hb dX3_addAction_82 (lv_at hl 4 rfl) ?_
        obtain ⟨x84, hg84, hf⟩ := pr_b hf
        refine pw_cViW (b := ad 1) (As := [.int v1, .int v2, .int v3, .int v4]) (rest := []) ⟨hx, hb, hml, hown, hts⟩ (c_X1_appendAction (D := D) c_states c_transitions c_timerEvent c_from c_event c_next c_variable c_relation c_number c_actions c_kind c_a c_b c_present c_now c_emits c_kept c_ignores c_values c_due c_outputs c_fired (0 : Int32) c_classes c_size c_taken c_stateClass c_finerClass c_usedBits c_offsets c_owners v1 v2 v3 v4 hg84) (cwV 4 hts gX3_addAction_X1_appendAction rfl rfl rfl (by decide +kernel) ⟨Nat.le_of_ble_eq_true rfl, Nat.le_of_ble_eq_true rfl⟩) 1 1 rfl rfl hK hP hD hS hA rfl hl.1 rfl (Nat.le_of_ble_eq_true rfl) dX3_addAction_84 ⟨Nat.le_of_ble_eq_true rfl, Nat.le_of_ble_eq_true rfl⟩ (fun H locs hP hD hS => ?_)
        have hP : va_P D vwCl (CW ad ca c_states c_transitions c_timerEvent c_from c_event c_next c_variable c_relation c_number x84.2.1 x84.2.2.1 x84.2.2.2.1 x84.2.2.2.2 c_present c_now c_emits c_kept c_ignores c_values c_due c_outputs c_fired (0 : Int32) c_classes c_size c_taken c_stateClass c_finerClass c_usedBits c_offsets c_owners) H := hP
        have hD : va_D A (CW ad ca c_states c_transitions c_timerEvent c_from c_event c_next c_variable c_relation c_number x84.2.1 x84.2.2.1 x84.2.2.2.1 x84.2.2.2.2 c_present c_now c_emits c_kept c_ignores c_values c_due c_outputs c_fired (0 : Int32) c_classes c_size c_taken c_stateClass c_finerClass c_usedBits c_offsets c_owners) := hD
        obtain rfl := Option.some.inj hf
        subst hZ
        exact px_ri hx hb hr hlocks rfl rfl hK hP hD hS (Nat.le_of_ble_eq_true rfl) (Nat.le_of_ble_eq_true rfl) dX3_addAction_87
      · have hf := pr_f hf hc
        obtain rfl := Option.some.inj hf
        subst hZ
        exact px_throw (cls := "java/lang/IllegalStateException") (text := "the transition has 3 actions") hx hb hst hown kc36 ki36 hat40 (by decide +kernel) (by decide +kernel) (by decide +kernel) (by decide +kernel) (by decide +kernel) hT hS hK hP hD (hl.1.trans hml.symm) dX3_addAction_57 dX3_addAction_60 dX3_addAction_61 dX3_addAction_63 dX3_addAction_66 hex (Nat.le_of_ble_eq_true rfl) (Nat.le_of_ble_eq_true rfl) (Nat.le_of_ble_eq_true rfl) (Nat.le_of_ble_eq_true rfl) hlocks rfl (Nat.le_of_ble_eq_true rfl) (Nat.le_of_ble_eq_true rfl)
    · have hf := pr_t hf hc
      obtain rfl := Option.some.inj hf
      subst hZ
      exact px_throw (cls := "java/lang/IllegalArgumentException") (text := "there is no such action") hx hb hst hown kc64 ki64 hat68 (by decide +kernel) (by decide +kernel) (by decide +kernel) (by decide +kernel) (by decide +kernel) hT hS hK hP hD (hl.1.trans hml.symm) dX3_addAction_34 dX3_addAction_37 dX3_addAction_38 dX3_addAction_40 dX3_addAction_43 hex (Nat.le_of_ble_eq_true rfl) (Nat.le_of_ble_eq_true rfl) (Nat.le_of_ble_eq_true rfl) (Nat.le_of_ble_eq_true rfl) hlocks rfl (Nat.le_of_ble_eq_true rfl) (Nat.le_of_ble_eq_true rfl)
  · have hf := pr_t hf hc
    obtain rfl := Option.some.inj hf
    subst hZ
    exact px_throw (cls := "java/lang/IndexOutOfBoundsException") (text := "there is no such transition") hx hb hst hown kc51 ki51 hat55 (by decide +kernel) (by decide +kernel) (by decide +kernel) (by decide +kernel) (by decide +kernel) hT hS hK hP hD (hl.1.trans hml.symm) dX3_addAction_14 dX3_addAction_17 dX3_addAction_18 dX3_addAction_20 dX3_addAction_23 hex (Nat.le_of_ble_eq_true rfl) (Nat.le_of_ble_eq_true rfl) (Nat.le_of_ble_eq_true rfl) (Nat.le_of_ble_eq_true rfl) hlocks rfl (Nat.le_of_ble_eq_true rfl) (Nat.le_of_ble_eq_true rfl)
abbrev rmX3_drop : Room := { frames := 6, cells := 1, slots := 6, locals := 90 }
set_option maxHeartbeats 4000000 in
set_option maxRecDepth 100000 in
theorem c_X3_drop {l : Launch} {D : va_G} {ad : Nat → Nat} {ca : Nat → ClassId} (hst : l.stackTraces = false) (c_states c_transitions : Int32) (c_timerEvent c_from c_event c_next c_variable c_relation c_number c_actions c_kind c_a c_b : Nat → Int32) (c_present : Int32) (c_now : Int64) (c_emits c_kept c_ignores : Int32) (c_values : Nat → Int32) (c_due : Nat → Int64) (c_outputs c_fired : Nat → Int32) (c_made c_classes c_size c_taken : Int32) (c_stateClass c_finerClass c_usedBits c_offsets c_owners : Nat → Int32) {o : String ⊕ (Int32 × Int32 × Int32)} (hf : X3_drop c_transitions c_made = some o) : Xi l yX3_drop wsX3_drop rmX3_drop D (CT ca) (CW ad ca c_states c_transitions c_timerEvent c_from c_event c_next c_variable c_relation c_number c_actions c_kind c_a c_b c_present c_now c_emits c_kept c_ignores c_values c_due c_outputs c_fired c_made c_classes c_size c_taken c_stateClass c_finerClass c_usedBits c_offsets c_owners) [.ref (ad 0)] o (fun (u : Int32 × Int32 × Int32) => u.1) (fun (u : Int32 × Int32 × Int32) => (CW ad ca c_states u.2.1 c_timerEvent c_from c_event c_next c_variable c_relation c_number c_actions c_kind c_a c_b c_present c_now c_emits c_kept c_ignores c_values c_due c_outputs c_fired u.2.2 c_classes c_size c_taken c_stateClass c_finerClass c_usedBits c_offsets c_owners)) := by
  intro sz
  refine px_entry (Qc := fun A => px_Qi D (CT ca) (fun (u : Int32 × Int32 × Int32) => (CW ad ca c_states u.2.1 c_timerEvent c_from c_event c_next c_variable c_relation c_number c_actions c_kind c_a c_b c_present c_now c_emits c_kept c_ignores c_values c_due c_outputs c_fired u.2.2 c_classes c_size c_taken c_stateClass c_finerClass c_usedBits c_offsets c_owners)) A o (fun (u : Int32 × Int32 × Int32) => u.1)) (XC := fun A => px_X D (CT ca) (CW ad ca c_states c_transitions c_timerEvent c_from c_event c_next c_variable c_relation c_number c_actions c_kind c_a c_b c_present c_now c_emits c_kept c_ignores c_values c_due c_outputs c_fired c_made c_classes c_size c_taken c_stateClass c_finerClass c_usedBits c_offsets c_owners) A o) (cc := cX3_drop) (maxL := 1) (ret := (some .int)) (by decide) rfl (Nat.le_of_ble_eq_true rfl) ?_ sz
  intro p e s m args below meth c A ls Z H locs hx hb hr hlocks hts hown hml hnm hK hP hD hS hA hl hT hex hZ
  have hown : s.vm.findClass RX3 = some m.cls := hown
  have hiX1 : ∀ w ∈ u_ws RX1 TX1 13, w ∈ wsX3_drop := by decide +kernel
  have hiX2 : ∀ w ∈ u_ws RX2 TX2 10, w ∈ wsX3_drop := by decide +kernel
  have hiX3 : ∀ w ∈ u_ws RX3 TX3 3, w ∈ wsX3_drop := by decide +kernel
  have f12 := hts (.fieldLink RX3 12 "ProtocolMachine" "protocol" "LProtocolMachine$Protocol;") (by decide +kernel)
  have f28 := hts (.fieldLink RX3 28 "ProtocolMachine" "table" "LProtocolMachine$Table;") (by decide +kernel)
  have f43 := hts (.fieldLink RX3 43 "ProtocolMachine$Table" "made" "Z") (by decide +kernel)
  have f69 := hts (.fieldLink RX3 69 "ProtocolMachine$Protocol" "transitions" "I") (by decide +kernel)
  have kc36 := hts (.classLink RX3 36 "java/lang/IllegalStateException") (by decide +kernel)
  have ki36 := hts (.initialized "java/lang/IllegalStateException") (by decide +kernel)
  have hat40 : ∀ w ∈ (vx_atS RX3 40 "java/lang/IllegalStateException" ["java/lang/RuntimeException", "java/lang/Exception"]).filter goodWord, w.before args s = true := fun w h => hts w (List.mem_cons_of_mem _ (List.mem_append_right _ h))
  have hl : lv_has ls 1 [(0, .ref (ad 0))] := hl
  unfold X3_drop at hf
  refine lv_aload_n hx hb dX3_drop_0 rfl (lv_at hl 0 rfl) ?_
  refine va_get (D := D) (ci := 3) (v := .ref (ad 1)) (C := RX3) (T := TX3) (N := 3) hx hb hts hiX3 hown hK hP 0 rfl rfl 0 (by decide) f12 (fun _ h9 => h9) rfl dX3_drop_1 ?_
  refine va_get (D := D) (ci := 1) (v := .int c_transitions) (C := RX1) (T := TX1) (N := 13) hx hb hts hiX1 hown hK hP 1 rfl rfl 1 (by decide) f69 (fun _ h9 => h9) rfl dX3_drop_4 ?_
  refine lv_if_gt (tgt := 20) hx hb dX3_drop_7 (by decide) (fun hc => ?_) (fun hc => ?_)
  · have hf := pr_t hf hc
    refine lv_aload_n hx hb dX3_drop_20 rfl (lv_at hl 0 rfl) ?_
    refine va_get (D := D) (ci := 3) (v := .ref (ad 3)) (C := RX3) (T := TX3) (N := 3) hx hb hts hiX3 hown hK hP 0 rfl rfl 2 (by decide) f28 (fun _ h9 => h9) rfl dX3_drop_21 ?_
    refine lv_iconst (v := (0 : Int32)) hx hb dX3_drop_24 (by decide) ?_
    refine va_put (D := D) (ci := 2) (v := .int (0 : Int32)) (ty := .boolean) (C := RX2) (T := TX2) (N := 10) hx hb hts hiX2 tyX2 tyX2_ok nmX2 hown hK hP hD hS 3 rfl rfl 1 (by decide) f43 (fun _ h9 => h9) rfl (by decide +kernel) rfl rfl (Nat.le_of_ble_eq_true rfl) dX3_drop_25 (fun H locs hP hD hS => ?_)
    have hP : va_P D vwCl (CW ad ca c_states c_transitions c_timerEvent c_from c_event c_next c_variable c_relation c_number c_actions c_kind c_a c_b c_present c_now c_emits c_kept c_ignores c_values c_due c_outputs c_fired (0 : Int32) c_classes c_size c_taken c_stateClass c_finerClass c_usedBits c_offsets c_owners) H := hP
    have hD : va_D A (CW ad ca c_states c_transitions c_timerEvent c_from c_event c_next c_variable c_relation c_number c_actions c_kind c_a c_b c_present c_now c_emits c_kept c_ignores c_values c_due c_outputs c_fired (0 : Int32) c_classes c_size c_taken c_stateClass c_finerClass c_usedBits c_offsets c_owners) := hD
    refine lv_aload_n hx hb dX3_drop_28 rfl (lv_at hl 0 rfl) ?_
    refine va_get (D := D) (ci := 3) (v := .ref (ad 1)) (C := RX3) (T := TX3) (N := 3) hx hb hts hiX3 hown hK hP 0 rfl rfl 0 (by decide) f12 (fun _ h9 => h9) rfl dX3_drop_29 ?_
    refine lv_dup hx hb dX3_drop_32 rfl ?_
    refine va_get (D := D) (ci := 1) (v := .int c_transitions) (C := RX1) (T := TX1) (N := 13) hx hb hts hiX1 hown hK hP 1 rfl rfl 1 (by decide) f69 (fun _ h9 => h9) rfl dX3_drop_33 ?_
    refine lv_iconst (v := (1 : Int32)) hx hb dX3_drop_36 (by decide) ?_
    refine lv_isub hx hb dX3_drop_37 ?_
    refine va_put (D := D) (ci := 1) (v := .int (c_transitions - (1 : Int32))) (ty := .int) (C := RX1) (T := TX1) (N := 13) hx hb hts hiX1 tyX1 tyX1_ok nmX1 hown hK hP hD hS 1 rfl rfl 1 (by decide) f69 (fun _ h9 => h9) rfl (by decide +kernel) rfl rfl (Nat.le_of_ble_eq_true rfl) dX3_drop_38 (fun H locs hP hD hS => ?_)
    have hP : va_P D vwCl (CW ad ca c_states (c_transitions - (1 : Int32)) c_timerEvent c_from c_event c_next c_variable c_relation c_number c_actions c_kind c_a c_b c_present c_now c_emits c_kept c_ignores c_values c_due c_outputs c_fired (0 : Int32) c_classes c_size c_taken c_stateClass c_finerClass c_usedBits c_offsets c_owners) H := hP
    have hD : va_D A (CW ad ca c_states (c_transitions - (1 : Int32)) c_timerEvent c_from c_event c_next c_variable c_relation c_number c_actions c_kind c_a c_b c_present c_now c_emits c_kept c_ignores c_values c_due c_outputs c_fired (0 : Int32) c_classes c_size c_taken c_stateClass c_finerClass c_usedBits c_offsets c_owners) := hD
    refine lv_aload_n hx hb dX3_drop_41 rfl (lv_at hl 0 rfl) ?_
    refine va_get (D := D) (ci := 3) (v := .ref (ad 1)) (C := RX3) (T := TX3) (N := 3) hx hb hts hiX3 hown hK hP 0 rfl rfl 0 (by decide) f12 (fun _ h9 => h9) rfl dX3_drop_42 ?_
    refine va_get (D := D) (ci := 1) (v := .int (c_transitions - (1 : Int32))) (C := RX1) (T := TX1) (N := 13) hx hb hts hiX1 hown hK hP 1 rfl rfl 1 (by decide) f69 (fun _ h9 => h9) rfl dX3_drop_45 ?_
    obtain rfl := Option.some.inj hf
    subst hZ
    exact px_ri hx hb hr hlocks rfl rfl hK hP hD hS (Nat.le_of_ble_eq_true rfl) (Nat.le_of_ble_eq_true rfl) dX3_drop_48
  · have hf := pr_f hf hc
    obtain rfl := Option.some.inj hf
    subst hZ
    exact px_throw (cls := "java/lang/IllegalStateException") (text := "there is no transition") hx hb hst hown kc36 ki36 hat40 (by decide +kernel) (by decide +kernel) (by decide +kernel) (by decide +kernel) (by decide +kernel) hT hS hK hP hD (hl.1.trans hml.symm) dX3_drop_10 dX3_drop_13 dX3_drop_14 dX3_drop_16 dX3_drop_19 hex (Nat.le_of_ble_eq_true rfl) (Nat.le_of_ble_eq_true rfl) (Nat.le_of_ble_eq_true rfl) (Nat.le_of_ble_eq_true rfl) hlocks rfl (Nat.le_of_ble_eq_true rfl) (Nat.le_of_ble_eq_true rfl)
abbrev rmX3_setTimerEvent : Room := { frames := 6, cells := 1, slots := 6, locals := 90 }
set_option maxHeartbeats 4000000 in
set_option maxRecDepth 100000 in
theorem c_X3_setTimerEvent {l : Launch} {D : va_G} {ad : Nat → Nat} {ca : Nat → ClassId} (hst : l.stackTraces = false) (c_states c_transitions : Int32) (c_timerEvent c_from c_event c_next c_variable c_relation c_number c_actions c_kind c_a c_b : Nat → Int32) (c_present : Int32) (c_now : Int64) (c_emits c_kept c_ignores : Int32) (c_values : Nat → Int32) (c_due : Nat → Int64) (c_outputs c_fired : Nat → Int32) (c_made c_classes c_size c_taken : Int32) (c_stateClass c_finerClass c_usedBits c_offsets c_owners : Nat → Int32) (v1 v2 : Int32) {o : String ⊕ (Int32 × (Nat → Int32) × Int32)} (hf : X3_setTimerEvent c_timerEvent c_made v1 v2 = some o) : Xi l yX3_setTimerEvent wsX3_setTimerEvent rmX3_setTimerEvent D (CT ca) (CW ad ca c_states c_transitions c_timerEvent c_from c_event c_next c_variable c_relation c_number c_actions c_kind c_a c_b c_present c_now c_emits c_kept c_ignores c_values c_due c_outputs c_fired c_made c_classes c_size c_taken c_stateClass c_finerClass c_usedBits c_offsets c_owners) [.ref (ad 0), .int v1, .int v2] o (fun (u : Int32 × (Nat → Int32) × Int32) => u.1) (fun (u : Int32 × (Nat → Int32) × Int32) => (CW ad ca c_states c_transitions u.2.1 c_from c_event c_next c_variable c_relation c_number c_actions c_kind c_a c_b c_present c_now c_emits c_kept c_ignores c_values c_due c_outputs c_fired u.2.2 c_classes c_size c_taken c_stateClass c_finerClass c_usedBits c_offsets c_owners)) := by
  intro sz
  refine px_entry (Qc := fun A => px_Qi D (CT ca) (fun (u : Int32 × (Nat → Int32) × Int32) => (CW ad ca c_states c_transitions u.2.1 c_from c_event c_next c_variable c_relation c_number c_actions c_kind c_a c_b c_present c_now c_emits c_kept c_ignores c_values c_due c_outputs c_fired u.2.2 c_classes c_size c_taken c_stateClass c_finerClass c_usedBits c_offsets c_owners)) A o (fun (u : Int32 × (Nat → Int32) × Int32) => u.1)) (XC := fun A => px_X D (CT ca) (CW ad ca c_states c_transitions c_timerEvent c_from c_event c_next c_variable c_relation c_number c_actions c_kind c_a c_b c_present c_now c_emits c_kept c_ignores c_values c_due c_outputs c_fired c_made c_classes c_size c_taken c_stateClass c_finerClass c_usedBits c_offsets c_owners) A o) (cc := cX3_setTimerEvent) (maxL := 4) (ret := (some .int)) (by decide) rfl (Nat.le_of_ble_eq_true rfl) ?_ sz
  intro p e s m args below meth c A ls Z H locs hx hb hr hlocks hts hown hml hnm hK hP hD hS hA hl hT hex hZ
  have hown : s.vm.findClass RX3 = some m.cls := hown
  have hiX1 : ∀ w ∈ u_ws RX1 TX1 13, w ∈ wsX3_setTimerEvent := by decide +kernel
  have hiX2 : ∀ w ∈ u_ws RX2 TX2 10, w ∈ wsX3_setTimerEvent := by decide +kernel
  have hiX3 : ∀ w ∈ u_ws RX3 TX3 3, w ∈ wsX3_setTimerEvent := by decide +kernel
  have f107 := hts (.fieldLink RX3 107 "ProtocolMachine$Protocol" "timerEvent" "[I") (by decide +kernel)
  have f12 := hts (.fieldLink RX3 12 "ProtocolMachine" "protocol" "LProtocolMachine$Protocol;") (by decide +kernel)
  have f28 := hts (.fieldLink RX3 28 "ProtocolMachine" "table" "LProtocolMachine$Table;") (by decide +kernel)
  have f43 := hts (.fieldLink RX3 43 "ProtocolMachine$Table" "made" "Z") (by decide +kernel)
  have kc51 := hts (.classLink RX3 51 "java/lang/IndexOutOfBoundsException") (by decide +kernel)
  have ki51 := hts (.initialized "java/lang/IndexOutOfBoundsException") (by decide +kernel)
  have hat55 : ∀ w ∈ (vx_atS RX3 55 "java/lang/IndexOutOfBoundsException" ["java/lang/RuntimeException", "java/lang/Exception"]).filter goodWord, w.before args s = true := fun w h => hts w (List.mem_cons_of_mem _ (List.mem_append_right _ h))
  have hl : lv_has ls 4 [(0, .ref (ad 0)), (1, .int v1), (2, .int v2)] := hl
  unfold X3_setTimerEvent at hf
  refine lv_iload_n hx hb dX3_setTimerEvent_0 rfl (lv_at hl 1 rfl) ?_
  refine lv_iconst (v := (4 : Int32)) hx hb dX3_setTimerEvent_1 (by decide) ?_
  obtain ⟨x2, hg2, hf⟩ := pr_b hf
  refine pw_cSiE (As := [.int v1, .int (4 : Int32)]) (rest := []) ⟨hx, hb, hml, hown, hts⟩ (c_X3_isBelow (D := D) (tys := (CT ca)) v1 (4 : Int32) hg2) (va_cwS 2 hts gX3_setTimerEvent_X3_isBelow rfl rfl rfl (by decide +kernel) ⟨Nat.le_of_ble_eq_true rfl, Nat.le_of_ble_eq_true rfl⟩) hK hP hD hS hA rfl hl.1 rfl (Nat.le_of_ble_eq_true rfl) dX3_setTimerEvent_2 ⟨Nat.le_of_ble_eq_true rfl, Nat.le_of_ble_eq_true rfl⟩ (fun H locs hP hD hS => ?_)
  refine lv_if_eq (tgt := 17) hx hb dX3_setTimerEvent_5 (by decide) (fun hc => ?_) (fun hc => ?_)
  · have hf := pr_t hf hc
    obtain rfl := Option.some.inj hf
    subst hZ
    exact px_throw (cls := "java/lang/IndexOutOfBoundsException") (text := "there is no such timer or event") hx hb hst hown kc51 ki51 hat55 (by decide +kernel) (by decide +kernel) (by decide +kernel) (by decide +kernel) (by decide +kernel) hT hS hK hP hD (hl.1.trans hml.symm) dX3_setTimerEvent_17 dX3_setTimerEvent_20 dX3_setTimerEvent_21 dX3_setTimerEvent_23 dX3_setTimerEvent_26 hex (Nat.le_of_ble_eq_true rfl) (Nat.le_of_ble_eq_true rfl) (Nat.le_of_ble_eq_true rfl) (Nat.le_of_ble_eq_true rfl) hlocks rfl (Nat.le_of_ble_eq_true rfl) (Nat.le_of_ble_eq_true rfl)
  · have hf := pr_f hf hc
    refine lv_iload_n hx hb dX3_setTimerEvent_8 rfl (lv_at hl 2 rfl) ?_
    refine lv_bipush (v := (8 : Int32)) hx hb dX3_setTimerEvent_9 (by decide) ?_
    obtain ⟨x11, hg11, hf⟩ := pr_b hf
    refine pw_cSiE (As := [.int v2, .int (8 : Int32)]) (rest := []) ⟨hx, hb, hml, hown, hts⟩ (c_X3_isBelow (D := D) (tys := (CT ca)) v2 (8 : Int32) hg11) (va_cwS 2 hts gX3_setTimerEvent_X3_isBelow rfl rfl rfl (by decide +kernel) ⟨Nat.le_of_ble_eq_true rfl, Nat.le_of_ble_eq_true rfl⟩) hK hP hD hS hA rfl hl.1 rfl (Nat.le_of_ble_eq_true rfl) dX3_setTimerEvent_11 ⟨Nat.le_of_ble_eq_true rfl, Nat.le_of_ble_eq_true rfl⟩ (fun H locs hP hD hS => ?_)
    refine lv_if_ne (tgt := 27) hx hb dX3_setTimerEvent_14 (by decide) (fun hc => ?_) (fun hc => ?_)
    · have hf := pr_f hf hc
      refine lv_aload_n hx hb dX3_setTimerEvent_27 rfl (lv_at hl 0 rfl) ?_
      refine va_get (D := D) (ci := 3) (v := .ref (ad 3)) (C := RX3) (T := TX3) (N := 3) hx hb hts hiX3 hown hK hP 0 rfl rfl 2 (by decide) f28 (fun _ h9 => h9) rfl dX3_setTimerEvent_28 ?_
      refine lv_iconst (v := (0 : Int32)) hx hb dX3_setTimerEvent_31 (by decide) ?_
      refine va_put (D := D) (ci := 2) (v := .int (0 : Int32)) (ty := .boolean) (C := RX2) (T := TX2) (N := 10) hx hb hts hiX2 tyX2 tyX2_ok nmX2 hown hK hP hD hS 3 rfl rfl 1 (by decide) f43 (fun _ h9 => h9) rfl (by decide +kernel) rfl rfl (Nat.le_of_ble_eq_true rfl) dX3_setTimerEvent_32 (fun H locs hP hD hS => ?_)
      have hP : va_P D vwCl (CW ad ca c_states c_transitions c_timerEvent c_from c_event c_next c_variable c_relation c_number c_actions c_kind c_a c_b c_present c_now c_emits c_kept c_ignores c_values c_due c_outputs c_fired (0 : Int32) c_classes c_size c_taken c_stateClass c_finerClass c_usedBits c_offsets c_owners) H := hP
      have hD : va_D A (CW ad ca c_states c_transitions c_timerEvent c_from c_event c_next c_variable c_relation c_number c_actions c_kind c_a c_b c_present c_now c_emits c_kept c_ignores c_values c_due c_outputs c_fired (0 : Int32) c_classes c_size c_taken c_stateClass c_finerClass c_usedBits c_offsets c_owners) := hD
      refine lv_aload_n hx hb dX3_setTimerEvent_35 rfl (lv_at hl 0 rfl) ?_
      refine va_get (D := D) (ci := 3) (v := .ref (ad 1)) (C := RX3) (T := TX3) (N := 3) hx hb hts hiX3 hown hK hP 0 rfl rfl 0 (by decide) f12 (fun _ h9 => h9) rfl dX3_setTimerEvent_36 ?_
      refine va_get (D := D) (ci := 1) (v := .ref (ad 4)) (C := RX1) (T := TX1) (N := 13) hx hb hts hiX1 hown hK hP 1 rfl rfl 2 (by decide) f107 (fun _ h9 => h9) rfl dX3_setTimerEvent_39 ?_
      refine lv_iload_n hx hb dX3_setTimerEvent_42 rfl (lv_at hl 1 rfl) ?_
      obtain ⟨hi43, hf⟩ := pr_in hf
      refine va_iald hx hb hK hP 4 0 rfl rfl hi43 dX3_setTimerEvent_43 ?_
      refine lv_istore_n (lv' := [(3, .int (c_timerEvent v1.toNatClampNeg)), (0, .ref (ad 0)), (1, .int v1), (2, .int v2)]) hx hb dX3_setTimerEvent_44 rfl hl (by decide) rfl (fun ls hl => ?_)
      refine lv_aload_n hx hb dX3_setTimerEvent_45 rfl (lv_at hl 1 rfl) ?_
      refine va_get (D := D) (ci := 3) (v := .ref (ad 1)) (C := RX3) (T := TX3) (N := 3) hx hb hts hiX3 hown hK hP 0 rfl rfl 0 (by decide) f12 (fun _ h9 => h9) rfl dX3_setTimerEvent_46 ?_
      refine va_get (D := D) (ci := 1) (v := .ref (ad 4)) (C := RX1) (T := TX1) (N := 13) hx hb hts hiX1 hown hK hP 1 rfl rfl 2 (by decide) f107 (fun _ h9 => h9) rfl dX3_setTimerEvent_49 ?_
      refine lv_iload_n hx hb dX3_setTimerEvent_52 rfl (lv_at hl 2 rfl) ?_
      refine lv_iload_n hx hb dX3_setTimerEvent_53 rfl (lv_at hl 3 rfl) ?_
      refine va_iast hx hb hK hP hD hS 4 0 rfl rfl hi43 dX3_setTimerEvent_54 (fun H locs hP hD hS => ?_)
      have hP : va_P D vwCl (CW ad ca c_states c_transitions (upd c_timerEvent v1.toNatClampNeg v2) c_from c_event c_next c_variable c_relation c_number c_actions c_kind c_a c_b c_present c_now c_emits c_kept c_ignores c_values c_due c_outputs c_fired (0 : Int32) c_classes c_size c_taken c_stateClass c_finerClass c_usedBits c_offsets c_owners) H := hP
      have hD : va_D A (CW ad ca c_states c_transitions (upd c_timerEvent v1.toNatClampNeg v2) c_from c_event c_next c_variable c_relation c_number c_actions c_kind c_a c_b c_present c_now c_emits c_kept c_ignores c_values c_due c_outputs c_fired (0 : Int32) c_classes c_size c_taken c_stateClass c_finerClass c_usedBits c_offsets c_owners) := hD
      refine lv_iload_n hx hb dX3_setTimerEvent_55 rfl (lv_at hl 0 rfl) ?_
      obtain rfl := Option.some.inj hf
      subst hZ
      exact px_ri hx hb hr hlocks rfl rfl hK hP hD hS (Nat.le_of_ble_eq_true rfl) (Nat.le_of_ble_eq_true rfl) dX3_setTimerEvent_56
    · have hf := pr_t hf hc
      obtain rfl := Option.some.inj hf
      subst hZ
      exact px_throw (cls := "java/lang/IndexOutOfBoundsException") (text := "there is no such timer or event") hx hb hst hown kc51 ki51 hat55 (by decide +kernel) (by decide +kernel) (by decide +kernel) (by decide +kernel) (by decide +kernel) hT hS hK hP hD (hl.1.trans hml.symm) dX3_setTimerEvent_17 dX3_setTimerEvent_20 dX3_setTimerEvent_21 dX3_setTimerEvent_23 dX3_setTimerEvent_26 hex (Nat.le_of_ble_eq_true rfl) (Nat.le_of_ble_eq_true rfl) (Nat.le_of_ble_eq_true rfl) (Nat.le_of_ble_eq_true rfl) hlocks rfl (Nat.le_of_ble_eq_true rfl) (Nat.le_of_ble_eq_true rfl)
abbrev rmX3_stateCount : Room := { frames := 0, cells := 0, slots := 0, locals := 0 }
set_option maxHeartbeats 4000000 in
set_option maxRecDepth 100000 in
theorem c_X3_stateCount {l : Launch} {D : va_G} {ad : Nat → Nat} {ca : Nat → ClassId} (c_states c_transitions : Int32) (c_timerEvent c_from c_event c_next c_variable c_relation c_number c_actions c_kind c_a c_b : Nat → Int32) (c_present : Int32) (c_now : Int64) (c_emits c_kept c_ignores : Int32) (c_values : Nat → Int32) (c_due : Nat → Int64) (c_outputs c_fired : Nat → Int32) (c_made c_classes c_size c_taken : Int32) (c_stateClass c_finerClass c_usedBits c_offsets c_owners : Nat → Int32) {o : Int32} (hf : X3_stateCount c_states = some o) : Ci l yX3_stateCount wsX3_stateCount rmX3_stateCount D (CT ca) (CW ad ca c_states c_transitions c_timerEvent c_from c_event c_next c_variable c_relation c_number c_actions c_kind c_a c_b c_present c_now c_emits c_kept c_ignores c_values c_due c_outputs c_fired c_made c_classes c_size c_taken c_stateClass c_finerClass c_usedBits c_offsets c_owners) [.ref (ad 0)] o (CW ad ca c_states c_transitions c_timerEvent c_from c_event c_next c_variable c_relation c_number c_actions c_kind c_a c_b c_present c_now c_emits c_kept c_ignores c_values c_due c_outputs c_fired c_made c_classes c_size c_taken c_stateClass c_finerClass c_usedBits c_offsets c_owners) := by
  intro sz
  refine pw_entry (Qc := fun A => pw_Qi D (CT ca) (CW ad ca c_states c_transitions c_timerEvent c_from c_event c_next c_variable c_relation c_number c_actions c_kind c_a c_b c_present c_now c_emits c_kept c_ignores c_values c_due c_outputs c_fired c_made c_classes c_size c_taken c_stateClass c_finerClass c_usedBits c_offsets c_owners) A o) (cc := cX3_stateCount) (maxL := 1) (ret := (some .int)) (by decide) rfl (Nat.le_of_ble_eq_true rfl) ?_ sz
  intro p e s m args below meth c A ls Z H locs hx hb hr hlocks hts hown hml hnm hK hP hD hS hA hl hZ
  have hown : s.vm.findClass RX3 = some m.cls := hown
  have hiX1 : ∀ w ∈ u_ws RX1 TX1 13, w ∈ wsX3_stateCount := by decide +kernel
  have hiX3 : ∀ w ∈ u_ws RX3 TX3 3, w ∈ wsX3_stateCount := by decide +kernel
  have f12 := hts (.fieldLink RX3 12 "ProtocolMachine" "protocol" "LProtocolMachine$Protocol;") (by decide +kernel)
  have f32 := hts (.fieldLink RX3 32 "ProtocolMachine$Protocol" "states" "I") (by decide +kernel)
  have hl : lv_has ls 1 [(0, .ref (ad 0))] := hl
  unfold X3_stateCount at hf
  refine lv_aload_n hx hb dX3_stateCount_0 rfl (lv_at hl 0 rfl) ?_
  refine va_get (D := D) (ci := 3) (v := .ref (ad 1)) (C := RX3) (T := TX3) (N := 3) hx hb hts hiX3 hown hK hP 0 rfl rfl 0 (by decide) f12 (fun _ h9 => h9) rfl dX3_stateCount_1 ?_
  refine va_get (D := D) (ci := 1) (v := .int c_states) (C := RX1) (T := TX1) (N := 13) hx hb hts hiX1 hown hK hP 1 rfl rfl 0 (by decide) f32 (fun _ h9 => h9) rfl dX3_stateCount_4 ?_
  obtain rfl := Option.some.inj hf
  subst hZ
  exact pw_ri hx hb hr hlocks hK hP hD hS (Nat.le_of_ble_eq_true rfl) (Nat.le_of_ble_eq_true rfl) dX3_stateCount_7
abbrev rmX3_transitionCount : Room := { frames := 0, cells := 0, slots := 0, locals := 0 }
set_option maxHeartbeats 4000000 in
set_option maxRecDepth 100000 in
theorem c_X3_transitionCount {l : Launch} {D : va_G} {ad : Nat → Nat} {ca : Nat → ClassId} (c_states c_transitions : Int32) (c_timerEvent c_from c_event c_next c_variable c_relation c_number c_actions c_kind c_a c_b : Nat → Int32) (c_present : Int32) (c_now : Int64) (c_emits c_kept c_ignores : Int32) (c_values : Nat → Int32) (c_due : Nat → Int64) (c_outputs c_fired : Nat → Int32) (c_made c_classes c_size c_taken : Int32) (c_stateClass c_finerClass c_usedBits c_offsets c_owners : Nat → Int32) {o : Int32} (hf : X3_transitionCount c_transitions = some o) : Ci l yX3_transitionCount wsX3_transitionCount rmX3_transitionCount D (CT ca) (CW ad ca c_states c_transitions c_timerEvent c_from c_event c_next c_variable c_relation c_number c_actions c_kind c_a c_b c_present c_now c_emits c_kept c_ignores c_values c_due c_outputs c_fired c_made c_classes c_size c_taken c_stateClass c_finerClass c_usedBits c_offsets c_owners) [.ref (ad 0)] o (CW ad ca c_states c_transitions c_timerEvent c_from c_event c_next c_variable c_relation c_number c_actions c_kind c_a c_b c_present c_now c_emits c_kept c_ignores c_values c_due c_outputs c_fired c_made c_classes c_size c_taken c_stateClass c_finerClass c_usedBits c_offsets c_owners) := by
  intro sz
  refine pw_entry (Qc := fun A => pw_Qi D (CT ca) (CW ad ca c_states c_transitions c_timerEvent c_from c_event c_next c_variable c_relation c_number c_actions c_kind c_a c_b c_present c_now c_emits c_kept c_ignores c_values c_due c_outputs c_fired c_made c_classes c_size c_taken c_stateClass c_finerClass c_usedBits c_offsets c_owners) A o) (cc := cX3_transitionCount) (maxL := 1) (ret := (some .int)) (by decide) rfl (Nat.le_of_ble_eq_true rfl) ?_ sz
  intro p e s m args below meth c A ls Z H locs hx hb hr hlocks hts hown hml hnm hK hP hD hS hA hl hZ
  have hown : s.vm.findClass RX3 = some m.cls := hown
  have hiX1 : ∀ w ∈ u_ws RX1 TX1 13, w ∈ wsX3_transitionCount := by decide +kernel
  have hiX3 : ∀ w ∈ u_ws RX3 TX3 3, w ∈ wsX3_transitionCount := by decide +kernel
  have f12 := hts (.fieldLink RX3 12 "ProtocolMachine" "protocol" "LProtocolMachine$Protocol;") (by decide +kernel)
  have f69 := hts (.fieldLink RX3 69 "ProtocolMachine$Protocol" "transitions" "I") (by decide +kernel)
  have hl : lv_has ls 1 [(0, .ref (ad 0))] := hl
  unfold X3_transitionCount at hf
  refine lv_aload_n hx hb dX3_transitionCount_0 rfl (lv_at hl 0 rfl) ?_
  refine va_get (D := D) (ci := 3) (v := .ref (ad 1)) (C := RX3) (T := TX3) (N := 3) hx hb hts hiX3 hown hK hP 0 rfl rfl 0 (by decide) f12 (fun _ h9 => h9) rfl dX3_transitionCount_1 ?_
  refine va_get (D := D) (ci := 1) (v := .int c_transitions) (C := RX1) (T := TX1) (N := 13) hx hb hts hiX1 hown hK hP 1 rfl rfl 1 (by decide) f69 (fun _ h9 => h9) rfl dX3_transitionCount_4 ?_
  obtain rfl := Option.some.inj hf
  subst hZ
  exact pw_ri hx hb hr hlocks hK hP hD hS (Nat.le_of_ble_eq_true rfl) (Nat.le_of_ble_eq_true rfl) dX3_transitionCount_7
abbrev rmX3_isHidden : Room := { frames := 6, cells := 1, slots := 6, locals := 90 }
set_option maxHeartbeats 4000000 in
set_option maxRecDepth 100000 in
theorem c_X3_isHidden {l : Launch} {D : va_G} {ad : Nat → Nat} {ca : Nat → ClassId} (hst : l.stackTraces = false) (fu : Nat) (c_states c_transitions : Int32) (c_timerEvent c_from c_event c_next c_variable c_relation c_number c_actions c_kind c_a c_b : Nat → Int32) (c_present : Int32) (c_now : Int64) (c_emits c_kept c_ignores : Int32) (c_values : Nat → Int32) (c_due : Nat → Int64) (c_outputs c_fired : Nat → Int32) (c_made c_classes c_size c_taken : Int32) (c_stateClass c_finerClass c_usedBits c_offsets c_owners : Nat → Int32) (v1 : Int32) {o : String ⊕ (Int32)} (hf : X3_isHidden fu c_transitions c_from c_event c_variable c_relation c_number v1 = some o) : Xi l yX3_isHidden wsX3_isHidden rmX3_isHidden D (CT ca) (CW ad ca c_states c_transitions c_timerEvent c_from c_event c_next c_variable c_relation c_number c_actions c_kind c_a c_b c_present c_now c_emits c_kept c_ignores c_values c_due c_outputs c_fired c_made c_classes c_size c_taken c_stateClass c_finerClass c_usedBits c_offsets c_owners) [.ref (ad 0), .int v1] o (fun (u : Int32) => u) (fun (u : Int32) => (CW ad ca c_states c_transitions c_timerEvent c_from c_event c_next c_variable c_relation c_number c_actions c_kind c_a c_b c_present c_now c_emits c_kept c_ignores c_values c_due c_outputs c_fired c_made c_classes c_size c_taken c_stateClass c_finerClass c_usedBits c_offsets c_owners)) := by
  intro sz
  refine px_entry (Qc := fun A => px_Qi D (CT ca) (fun (u : Int32) => (CW ad ca c_states c_transitions c_timerEvent c_from c_event c_next c_variable c_relation c_number c_actions c_kind c_a c_b c_present c_now c_emits c_kept c_ignores c_values c_due c_outputs c_fired c_made c_classes c_size c_taken c_stateClass c_finerClass c_usedBits c_offsets c_owners)) A o (fun (u : Int32) => u)) (XC := fun A => px_X D (CT ca) (CW ad ca c_states c_transitions c_timerEvent c_from c_event c_next c_variable c_relation c_number c_actions c_kind c_a c_b c_present c_now c_emits c_kept c_ignores c_values c_due c_outputs c_fired c_made c_classes c_size c_taken c_stateClass c_finerClass c_usedBits c_offsets c_owners) A o) (cc := cX3_isHidden) (maxL := 2) (ret := (some .boolean)) (by decide) rfl (Nat.le_of_ble_eq_true rfl) ?_ sz
  intro p e s m args below meth c A ls Z H locs hx hb hr hlocks hts hown hml hnm hK hP hD hS hA hl hT hex hZ
  have hown : s.vm.findClass RX3 = some m.cls := hown
  have hiX1 : ∀ w ∈ u_ws RX1 TX1 13, w ∈ wsX3_isHidden := by decide +kernel
  have hiX3 : ∀ w ∈ u_ws RX3 TX3 3, w ∈ wsX3_isHidden := by decide +kernel
  have f12 := hts (.fieldLink RX3 12 "ProtocolMachine" "protocol" "LProtocolMachine$Protocol;") (by decide +kernel)
  have f69 := hts (.fieldLink RX3 69 "ProtocolMachine$Protocol" "transitions" "I") (by decide +kernel)
  have kc51 := hts (.classLink RX3 51 "java/lang/IndexOutOfBoundsException") (by decide +kernel)
  have ki51 := hts (.initialized "java/lang/IndexOutOfBoundsException") (by decide +kernel)
  have hat55 : ∀ w ∈ (vx_atS RX3 55 "java/lang/IndexOutOfBoundsException" ["java/lang/RuntimeException", "java/lang/Exception"]).filter goodWord, w.before args s = true := fun w h => hts w (List.mem_cons_of_mem _ (List.mem_append_right _ h))
  have hl : lv_has ls 2 [(0, .ref (ad 0)), (1, .int v1)] := hl
  unfold X3_isHidden at hf
  refine lv_iload_n hx hb dX3_isHidden_0 rfl (lv_at hl 1 rfl) ?_
  refine lv_aload_n hx hb dX3_isHidden_1 rfl (lv_at hl 0 rfl) ?_
  refine va_get (D := D) (ci := 3) (v := .ref (ad 1)) (C := RX3) (T := TX3) (N := 3) hx hb hts hiX3 hown hK hP 0 rfl rfl 0 (by decide) f12 (fun _ h9 => h9) rfl dX3_isHidden_2 ?_
  refine va_get (D := D) (ci := 1) (v := .int c_transitions) (C := RX1) (T := TX1) (N := 13) hx hb hts hiX1 hown hK hP 1 rfl rfl 1 (by decide) f69 (fun _ h9 => h9) rfl dX3_isHidden_5 ?_
  obtain ⟨x8, hg8, hf⟩ := pr_b hf
  refine pw_cSiE (As := [.int v1, .int c_transitions]) (rest := []) ⟨hx, hb, hml, hown, hts⟩ (c_X3_isBelow (D := D) (tys := (CT ca)) v1 c_transitions hg8) (va_cwS 2 hts gX3_isHidden_X3_isBelow rfl rfl rfl (by decide +kernel) ⟨Nat.le_of_ble_eq_true rfl, Nat.le_of_ble_eq_true rfl⟩) hK hP hD hS hA rfl hl.1 rfl (Nat.le_of_ble_eq_true rfl) dX3_isHidden_8 ⟨Nat.le_of_ble_eq_true rfl, Nat.le_of_ble_eq_true rfl⟩ (fun H locs hP hD hS => ?_)
  refine lv_if_ne (tgt := 24) hx hb dX3_isHidden_11 (by decide) (fun hc => ?_) (fun hc => ?_)
  · have hf := pr_f hf hc
    refine lv_aload_n hx hb dX3_isHidden_24 rfl (lv_at hl 0 rfl) ?_
    refine va_get (D := D) (ci := 3) (v := .ref (ad 1)) (C := RX3) (T := TX3) (N := 3) hx hb hts hiX3 hown hK hP 0 rfl rfl 0 (by decide) f12 (fun _ h9 => h9) rfl dX3_isHidden_25 ?_
    refine lv_iload_n hx hb dX3_isHidden_28 rfl (lv_at hl 1 rfl) ?_
    obtain ⟨x29, hg29, hf⟩ := pr_b hf
    refine pw_cViW (b := ad 1) (As := [.int v1]) (rest := []) ⟨hx, hb, hml, hown, hts⟩ (c_X1_isBehindAnother fu (D := D) c_states c_transitions c_timerEvent c_from c_event c_next c_variable c_relation c_number c_actions c_kind c_a c_b c_present c_now c_emits c_kept c_ignores c_values c_due c_outputs c_fired c_made c_classes c_size c_taken c_stateClass c_finerClass c_usedBits c_offsets c_owners v1 hg29) (cwV 1 hts gX3_isHidden_X1_isBehindAnother rfl rfl rfl (by decide +kernel) ⟨Nat.le_of_ble_eq_true rfl, Nat.le_of_ble_eq_true rfl⟩) 1 1 rfl rfl hK hP hD hS hA rfl hl.1 rfl (Nat.le_of_ble_eq_true rfl) dX3_isHidden_29 ⟨Nat.le_of_ble_eq_true rfl, Nat.le_of_ble_eq_true rfl⟩ (fun H locs hP hD hS => ?_)
    obtain ⟨hn, hf⟩ := pr_nz hf
    obtain rfl := Option.some.inj hf
    subst hZ
    exact px_rz hx hb hr hlocks hn rfl rfl hK hP hD hS (Nat.le_of_ble_eq_true rfl) (Nat.le_of_ble_eq_true rfl) dX3_isHidden_32
  · have hf := pr_t hf hc
    obtain rfl := Option.some.inj hf
    subst hZ
    exact px_throw (cls := "java/lang/IndexOutOfBoundsException") (text := "there is no such transition") hx hb hst hown kc51 ki51 hat55 (by decide +kernel) (by decide +kernel) (by decide +kernel) (by decide +kernel) (by decide +kernel) hT hS hK hP hD (hl.1.trans hml.symm) dX3_isHidden_14 dX3_isHidden_17 dX3_isHidden_18 dX3_isHidden_20 dX3_isHidden_23 hex (Nat.le_of_ble_eq_true rfl) (Nat.le_of_ble_eq_true rfl) (Nat.le_of_ble_eq_true rfl) (Nat.le_of_ble_eq_true rfl) hlocks rfl (Nat.le_of_ble_eq_true rfl) (Nat.le_of_ble_eq_true rfl)
abbrev rmX3_restart : Room := { frames := 2, cells := 0, slots := 0, locals := 44 }
set_option maxHeartbeats 4000000 in
set_option maxRecDepth 100000 in
theorem c_X3_restart {l : Launch} {D : va_G} {ad : Nat → Nat} {ca : Nat → ClassId} (fu : Nat) (c_states c_transitions : Int32) (c_timerEvent c_from c_event c_next c_variable c_relation c_number c_actions c_kind c_a c_b : Nat → Int32) (c_present : Int32) (c_now : Int64) (c_emits c_kept c_ignores : Int32) (c_values : Nat → Int32) (c_due : Nat → Int64) (c_outputs c_fired : Nat → Int32) (c_made c_classes c_size c_taken : Int32) (c_stateClass c_finerClass c_usedBits c_offsets c_owners : Nat → Int32) {o : Int64 × Int32 × Int64 × Int32 × Int32 × Int32 × (Nat → Int32) × (Nat → Int64) × (Nat → Int32)} (hf : X3_restart fu c_present c_now c_emits c_kept c_ignores c_values c_due c_fired = some o) : Cl l yX3_restart wsX3_restart rmX3_restart D (CT ca) (CW ad ca c_states c_transitions c_timerEvent c_from c_event c_next c_variable c_relation c_number c_actions c_kind c_a c_b c_present c_now c_emits c_kept c_ignores c_values c_due c_outputs c_fired c_made c_classes c_size c_taken c_stateClass c_finerClass c_usedBits c_offsets c_owners) [.ref (ad 0)] o.1 (CW ad ca c_states c_transitions c_timerEvent c_from c_event c_next c_variable c_relation c_number c_actions c_kind c_a c_b o.2.1 o.2.2.1 o.2.2.2.1 o.2.2.2.2.1 o.2.2.2.2.2.1 o.2.2.2.2.2.2.1 o.2.2.2.2.2.2.2.1 c_outputs o.2.2.2.2.2.2.2.2 c_made c_classes c_size c_taken c_stateClass c_finerClass c_usedBits c_offsets c_owners) := by
  intro sz
  refine pw_entry (Qc := fun A => pw_Ql D (CT ca) (CW ad ca c_states c_transitions c_timerEvent c_from c_event c_next c_variable c_relation c_number c_actions c_kind c_a c_b o.2.1 o.2.2.1 o.2.2.2.1 o.2.2.2.2.1 o.2.2.2.2.2.1 o.2.2.2.2.2.2.1 o.2.2.2.2.2.2.2.1 c_outputs o.2.2.2.2.2.2.2.2 c_made c_classes c_size c_taken c_stateClass c_finerClass c_usedBits c_offsets c_owners) A o.1) (cc := cX3_restart) (maxL := 3) (ret := (some .long)) (by decide) rfl (Nat.le_of_ble_eq_true rfl) ?_ sz
  intro p e s m args below meth c A ls Z H locs hx hb hr hlocks hts hown hml hnm hK hP hD hS hA hl hZ
  have hown : s.vm.findClass RX3 = some m.cls := hown
  have hiX0 : ∀ w ∈ u_ws RX0 TX0 10, w ∈ wsX3_restart := by decide +kernel
  have hiX3 : ∀ w ∈ u_ws RX3 TX3 3, w ∈ wsX3_restart := by decide +kernel
  have f113 := hts (.fieldLink RX3 113 "ProtocolMachine$Execution" "now" "J") (by decide +kernel)
  have f21 := hts (.fieldLink RX3 21 "ProtocolMachine" "execution" "LProtocolMachine$Execution;") (by decide +kernel)
  have hl : lv_has ls 3 [(0, .ref (ad 0))] := hl
  unfold X3_restart at hf
  refine lv_aload_n hx hb dX3_restart_0 rfl (lv_at hl 0 rfl) ?_
  refine va_get (D := D) (ci := 3) (v := .ref (ad 2)) (C := RX3) (T := TX3) (N := 3) hx hb hts hiX3 hown hK hP 0 rfl rfl 1 (by decide) f21 (fun _ h9 => h9) rfl dX3_restart_1 ?_
  refine va_get (D := D) (ci := 0) (v := .long c_now) (C := RX0) (T := TX0) (N := 10) hx hb hts hiX0 hown hK hP 2 rfl rfl 2 (by decide) f113 (fun _ h9 => h9) rfl dX3_restart_4 ?_
  refine lv_lstore_n (lv' := [(1, .long c_now), (0, .ref (ad 0))]) hx hb dX3_restart_7 rfl hl (by decide) rfl (fun ls hl => ?_)
  refine lv_aload_n hx hb dX3_restart_8 rfl (lv_at hl 1 rfl) ?_
  refine va_get (D := D) (ci := 3) (v := .ref (ad 2)) (C := RX3) (T := TX3) (N := 3) hx hb hts hiX3 hown hK hP 0 rfl rfl 1 (by decide) f21 (fun _ h9 => h9) rfl dX3_restart_9 ?_
  obtain ⟨x12, hg12, hf⟩ := pr_b hf
  refine pw_cVvW (b := ad 2) (As := []) (rest := []) ⟨hx, hb, hml, hown, hts⟩ (c_X0_begin fu (D := D) c_states c_transitions c_timerEvent c_from c_event c_next c_variable c_relation c_number c_actions c_kind c_a c_b c_present c_now c_emits c_kept c_ignores c_values c_due c_outputs c_fired c_made c_classes c_size c_taken c_stateClass c_finerClass c_usedBits c_offsets c_owners  hg12) (cwV 0 hts gX3_restart_X0_begin rfl rfl rfl (by decide +kernel) ⟨Nat.le_of_ble_eq_true rfl, Nat.le_of_ble_eq_true rfl⟩) 2 0 rfl rfl hK hP hD hS hA rfl hl.1 rfl (Nat.le_of_ble_eq_true rfl) dX3_restart_12 ⟨Nat.le_of_ble_eq_true rfl, Nat.le_of_ble_eq_true rfl⟩ (fun H locs hP hD hS => ?_)
  have hP : va_P D vwCl (CW ad ca c_states c_transitions c_timerEvent c_from c_event c_next c_variable c_relation c_number c_actions c_kind c_a c_b x12.1 x12.2.1 x12.2.2.1 x12.2.2.2.1 x12.2.2.2.2.1 x12.2.2.2.2.2.1 x12.2.2.2.2.2.2.1 c_outputs x12.2.2.2.2.2.2.2 c_made c_classes c_size c_taken c_stateClass c_finerClass c_usedBits c_offsets c_owners) H := hP
  have hD : va_D A (CW ad ca c_states c_transitions c_timerEvent c_from c_event c_next c_variable c_relation c_number c_actions c_kind c_a c_b x12.1 x12.2.1 x12.2.2.1 x12.2.2.2.1 x12.2.2.2.2.1 x12.2.2.2.2.2.1 x12.2.2.2.2.2.2.1 c_outputs x12.2.2.2.2.2.2.2 c_made c_classes c_size c_taken c_stateClass c_finerClass c_usedBits c_offsets c_owners) := hD
  refine lv_lload_n hx hb dX3_restart_15 rfl (lv_at hl 0 rfl) ?_
  obtain rfl := Option.some.inj hf
  subst hZ
  exact pw_rl hx hb hr hlocks hK hP hD hS (Nat.le_of_ble_eq_true rfl) (Nat.le_of_ble_eq_true rfl) dX3_restart_16
abbrev rmX3_happen : Room := { frames := 6, cells := 1, slots := 6, locals := 90 }
set_option maxHeartbeats 4000000 in
set_option maxRecDepth 100000 in
theorem c_X3_happen {l : Launch} {D : va_G} {ad : Nat → Nat} {ca : Nat → ClassId} (hst : l.stackTraces = false) (fu : Nat) (c_states c_transitions : Int32) (c_timerEvent c_from c_event c_next c_variable c_relation c_number c_actions c_kind c_a c_b : Nat → Int32) (c_present : Int32) (c_now : Int64) (c_emits c_kept c_ignores : Int32) (c_values : Nat → Int32) (c_due : Nat → Int64) (c_outputs c_fired : Nat → Int32) (c_made c_classes c_size c_taken : Int32) (c_stateClass c_finerClass c_usedBits c_offsets c_owners : Nat → Int32) (v1 : Int32) {o : String ⊕ (Int32 × Int32 × Int32 × Int32 × Int32 × (Nat → Int32) × (Nat → Int64) × (Nat → Int32) × (Nat → Int32))} (hf : X3_happen fu c_transitions c_from c_event c_next c_variable c_relation c_number c_actions c_kind c_a c_b c_present c_now c_emits c_kept c_ignores c_values c_due c_outputs c_fired v1 = some o) : Xi l yX3_happen wsX3_happen rmX3_happen D (CT ca) (CW ad ca c_states c_transitions c_timerEvent c_from c_event c_next c_variable c_relation c_number c_actions c_kind c_a c_b c_present c_now c_emits c_kept c_ignores c_values c_due c_outputs c_fired c_made c_classes c_size c_taken c_stateClass c_finerClass c_usedBits c_offsets c_owners) [.ref (ad 0), .int v1] o (fun (u : Int32 × Int32 × Int32 × Int32 × Int32 × (Nat → Int32) × (Nat → Int64) × (Nat → Int32) × (Nat → Int32)) => u.1) (fun (u : Int32 × Int32 × Int32 × Int32 × Int32 × (Nat → Int32) × (Nat → Int64) × (Nat → Int32) × (Nat → Int32)) => (CW ad ca c_states c_transitions c_timerEvent c_from c_event c_next c_variable c_relation c_number c_actions c_kind c_a c_b u.2.1 c_now u.2.2.1 u.2.2.2.1 u.2.2.2.2.1 u.2.2.2.2.2.1 u.2.2.2.2.2.2.1 u.2.2.2.2.2.2.2.1 u.2.2.2.2.2.2.2.2 c_made c_classes c_size c_taken c_stateClass c_finerClass c_usedBits c_offsets c_owners)) := by
  intro sz
  refine px_entry (Qc := fun A => px_Qi D (CT ca) (fun (u : Int32 × Int32 × Int32 × Int32 × Int32 × (Nat → Int32) × (Nat → Int64) × (Nat → Int32) × (Nat → Int32)) => (CW ad ca c_states c_transitions c_timerEvent c_from c_event c_next c_variable c_relation c_number c_actions c_kind c_a c_b u.2.1 c_now u.2.2.1 u.2.2.2.1 u.2.2.2.2.1 u.2.2.2.2.2.1 u.2.2.2.2.2.2.1 u.2.2.2.2.2.2.2.1 u.2.2.2.2.2.2.2.2 c_made c_classes c_size c_taken c_stateClass c_finerClass c_usedBits c_offsets c_owners)) A o (fun (u : Int32 × Int32 × Int32 × Int32 × Int32 × (Nat → Int32) × (Nat → Int64) × (Nat → Int32) × (Nat → Int32)) => u.1)) (XC := fun A => px_X D (CT ca) (CW ad ca c_states c_transitions c_timerEvent c_from c_event c_next c_variable c_relation c_number c_actions c_kind c_a c_b c_present c_now c_emits c_kept c_ignores c_values c_due c_outputs c_fired c_made c_classes c_size c_taken c_stateClass c_finerClass c_usedBits c_offsets c_owners) A o) (cc := cX3_happen) (maxL := 2) (ret := (some .int)) (by decide) rfl (Nat.le_of_ble_eq_true rfl) ?_ sz
  intro p e s m args below meth c A ls Z H locs hx hb hr hlocks hts hown hml hnm hK hP hD hS hA hl hT hex hZ
  have hown : s.vm.findClass RX3 = some m.cls := hown
  have hiX3 : ∀ w ∈ u_ws RX3 TX3 3, w ∈ wsX3_happen := by decide +kernel
  have f21 := hts (.fieldLink RX3 21 "ProtocolMachine" "execution" "LProtocolMachine$Execution;") (by decide +kernel)
  have kc51 := hts (.classLink RX3 51 "java/lang/IndexOutOfBoundsException") (by decide +kernel)
  have ki51 := hts (.initialized "java/lang/IndexOutOfBoundsException") (by decide +kernel)
  have hat55 : ∀ w ∈ (vx_atS RX3 55 "java/lang/IndexOutOfBoundsException" ["java/lang/RuntimeException", "java/lang/Exception"]).filter goodWord, w.before args s = true := fun w h => hts w (List.mem_cons_of_mem _ (List.mem_append_right _ h))
  have hl : lv_has ls 2 [(0, .ref (ad 0)), (1, .int v1)] := hl
  unfold X3_happen at hf
  refine lv_iload_n hx hb dX3_happen_0 rfl (lv_at hl 1 rfl) ?_
  refine lv_bipush (v := (8 : Int32)) hx hb dX3_happen_1 (by decide) ?_
  obtain ⟨x3, hg3, hf⟩ := pr_b hf
  refine pw_cSiE (As := [.int v1, .int (8 : Int32)]) (rest := []) ⟨hx, hb, hml, hown, hts⟩ (c_X3_isBelow (D := D) (tys := (CT ca)) v1 (8 : Int32) hg3) (va_cwS 2 hts gX3_happen_X3_isBelow rfl rfl rfl (by decide +kernel) ⟨Nat.le_of_ble_eq_true rfl, Nat.le_of_ble_eq_true rfl⟩) hK hP hD hS hA rfl hl.1 rfl (Nat.le_of_ble_eq_true rfl) dX3_happen_3 ⟨Nat.le_of_ble_eq_true rfl, Nat.le_of_ble_eq_true rfl⟩ (fun H locs hP hD hS => ?_)
  refine lv_if_ne (tgt := 19) hx hb dX3_happen_6 (by decide) (fun hc => ?_) (fun hc => ?_)
  · have hf := pr_f hf hc
    refine lv_aload_n hx hb dX3_happen_19 rfl (lv_at hl 0 rfl) ?_
    refine va_get (D := D) (ci := 3) (v := .ref (ad 2)) (C := RX3) (T := TX3) (N := 3) hx hb hts hiX3 hown hK hP 0 rfl rfl 1 (by decide) f21 (fun _ h9 => h9) rfl dX3_happen_20 ?_
    refine lv_iload_n hx hb dX3_happen_23 rfl (lv_at hl 1 rfl) ?_
    obtain ⟨x24, hg24, hf⟩ := pr_b hf
    refine pw_cViW (b := ad 2) (As := [.int v1]) (rest := []) ⟨hx, hb, hml, hown, hts⟩ (c_X0_react fu (D := D) c_states c_transitions c_timerEvent c_from c_event c_next c_variable c_relation c_number c_actions c_kind c_a c_b c_present c_now c_emits c_kept c_ignores c_values c_due c_outputs c_fired c_made c_classes c_size c_taken c_stateClass c_finerClass c_usedBits c_offsets c_owners v1 hg24) (cwV 1 hts gX3_happen_X0_react rfl rfl rfl (by decide +kernel) ⟨Nat.le_of_ble_eq_true rfl, Nat.le_of_ble_eq_true rfl⟩) 2 0 rfl rfl hK hP hD hS hA rfl hl.1 rfl (Nat.le_of_ble_eq_true rfl) dX3_happen_24 ⟨Nat.le_of_ble_eq_true rfl, Nat.le_of_ble_eq_true rfl⟩ (fun H locs hP hD hS => ?_)
    have hP : va_P D vwCl (CW ad ca c_states c_transitions c_timerEvent c_from c_event c_next c_variable c_relation c_number c_actions c_kind c_a c_b x24.2.1 c_now x24.2.2.1 x24.2.2.2.1 x24.2.2.2.2.1 x24.2.2.2.2.2.1 x24.2.2.2.2.2.2.1 x24.2.2.2.2.2.2.2.1 x24.2.2.2.2.2.2.2.2 c_made c_classes c_size c_taken c_stateClass c_finerClass c_usedBits c_offsets c_owners) H := hP
    have hD : va_D A (CW ad ca c_states c_transitions c_timerEvent c_from c_event c_next c_variable c_relation c_number c_actions c_kind c_a c_b x24.2.1 c_now x24.2.2.1 x24.2.2.2.1 x24.2.2.2.2.1 x24.2.2.2.2.2.1 x24.2.2.2.2.2.2.1 x24.2.2.2.2.2.2.2.1 x24.2.2.2.2.2.2.2.2 c_made c_classes c_size c_taken c_stateClass c_finerClass c_usedBits c_offsets c_owners) := hD
    obtain rfl := Option.some.inj hf
    subst hZ
    exact px_ri hx hb hr hlocks rfl rfl hK hP hD hS (Nat.le_of_ble_eq_true rfl) (Nat.le_of_ble_eq_true rfl) dX3_happen_27
  · have hf := pr_t hf hc
    obtain rfl := Option.some.inj hf
    subst hZ
    exact px_throw (cls := "java/lang/IndexOutOfBoundsException") (text := "there is no such event") hx hb hst hown kc51 ki51 hat55 (by decide +kernel) (by decide +kernel) (by decide +kernel) (by decide +kernel) (by decide +kernel) hT hS hK hP hD (hl.1.trans hml.symm) dX3_happen_9 dX3_happen_12 dX3_happen_13 dX3_happen_15 dX3_happen_18 hex (Nat.le_of_ble_eq_true rfl) (Nat.le_of_ble_eq_true rfl) (Nat.le_of_ble_eq_true rfl) (Nat.le_of_ble_eq_true rfl) hlocks rfl (Nat.le_of_ble_eq_true rfl) (Nat.le_of_ble_eq_true rfl)
abbrev rmX3_advance : Room := { frames := 6, cells := 1, slots := 6, locals := 114 }
set_option maxHeartbeats 4000000 in
set_option maxRecDepth 100000 in
theorem c_X3_advance {l : Launch} {D : va_G} {ad : Nat → Nat} {ca : Nat → ClassId} (hst : l.stackTraces = false) (fu : Nat) (c_states c_transitions : Int32) (c_timerEvent c_from c_event c_next c_variable c_relation c_number c_actions c_kind c_a c_b : Nat → Int32) (c_present : Int32) (c_now : Int64) (c_emits c_kept c_ignores : Int32) (c_values : Nat → Int32) (c_due : Nat → Int64) (c_outputs c_fired : Nat → Int32) (c_made c_classes c_size c_taken : Int32) (c_stateClass c_finerClass c_usedBits c_offsets c_owners : Nat → Int32) (v1 : Int32) {o : String ⊕ (Int32 × Int32 × Int64 × Int32 × Int32 × Int32 × (Nat → Int32) × (Nat → Int64) × (Nat → Int32) × (Nat → Int32))} (hf : X3_advance fu c_transitions c_timerEvent c_from c_event c_next c_variable c_relation c_number c_actions c_kind c_a c_b c_present c_now c_emits c_kept c_ignores c_values c_due c_outputs c_fired v1 = some o) : Xi l yX3_advance wsX3_advance rmX3_advance D (CT ca) (CW ad ca c_states c_transitions c_timerEvent c_from c_event c_next c_variable c_relation c_number c_actions c_kind c_a c_b c_present c_now c_emits c_kept c_ignores c_values c_due c_outputs c_fired c_made c_classes c_size c_taken c_stateClass c_finerClass c_usedBits c_offsets c_owners) [.ref (ad 0), .int v1] o (fun (u : Int32 × Int32 × Int64 × Int32 × Int32 × Int32 × (Nat → Int32) × (Nat → Int64) × (Nat → Int32) × (Nat → Int32)) => u.1) (fun (u : Int32 × Int32 × Int64 × Int32 × Int32 × Int32 × (Nat → Int32) × (Nat → Int64) × (Nat → Int32) × (Nat → Int32)) => (CW ad ca c_states c_transitions c_timerEvent c_from c_event c_next c_variable c_relation c_number c_actions c_kind c_a c_b u.2.1 u.2.2.1 u.2.2.2.1 u.2.2.2.2.1 u.2.2.2.2.2.1 u.2.2.2.2.2.2.1 u.2.2.2.2.2.2.2.1 u.2.2.2.2.2.2.2.2.1 u.2.2.2.2.2.2.2.2.2 c_made c_classes c_size c_taken c_stateClass c_finerClass c_usedBits c_offsets c_owners)) := by
  intro sz
  refine px_entry (Qc := fun A => px_Qi D (CT ca) (fun (u : Int32 × Int32 × Int64 × Int32 × Int32 × Int32 × (Nat → Int32) × (Nat → Int64) × (Nat → Int32) × (Nat → Int32)) => (CW ad ca c_states c_transitions c_timerEvent c_from c_event c_next c_variable c_relation c_number c_actions c_kind c_a c_b u.2.1 u.2.2.1 u.2.2.2.1 u.2.2.2.2.1 u.2.2.2.2.2.1 u.2.2.2.2.2.2.1 u.2.2.2.2.2.2.2.1 u.2.2.2.2.2.2.2.2.1 u.2.2.2.2.2.2.2.2.2 c_made c_classes c_size c_taken c_stateClass c_finerClass c_usedBits c_offsets c_owners)) A o (fun (u : Int32 × Int32 × Int64 × Int32 × Int32 × Int32 × (Nat → Int32) × (Nat → Int64) × (Nat → Int32) × (Nat → Int32)) => u.1)) (XC := fun A => px_X D (CT ca) (CW ad ca c_states c_transitions c_timerEvent c_from c_event c_next c_variable c_relation c_number c_actions c_kind c_a c_b c_present c_now c_emits c_kept c_ignores c_values c_due c_outputs c_fired c_made c_classes c_size c_taken c_stateClass c_finerClass c_usedBits c_offsets c_owners) A o) (cc := cX3_advance) (maxL := 2) (ret := (some .int)) (by decide) rfl (Nat.le_of_ble_eq_true rfl) ?_ sz
  intro p e s m args below meth c A ls Z H locs hx hb hr hlocks hts hown hml hnm hK hP hD hS hA hl hT hex hZ
  have hown : s.vm.findClass RX3 = some m.cls := hown
  have hiX3 : ∀ w ∈ u_ws RX3 TX3 3, w ∈ wsX3_advance := by decide +kernel
  have f21 := hts (.fieldLink RX3 21 "ProtocolMachine" "execution" "LProtocolMachine$Execution;") (by decide +kernel)
  have kc64 := hts (.classLink RX3 64 "java/lang/IllegalArgumentException") (by decide +kernel)
  have ki64 := hts (.initialized "java/lang/IllegalArgumentException") (by decide +kernel)
  have hat68 : ∀ w ∈ (vx_atS RX3 68 "java/lang/IllegalArgumentException" ["java/lang/RuntimeException", "java/lang/Exception"]).filter goodWord, w.before args s = true := fun w h => hts w (List.mem_cons_of_mem _ (List.mem_append_right _ h))
  have hl : lv_has ls 2 [(0, .ref (ad 0)), (1, .int v1)] := hl
  unfold X3_advance at hf
  refine lv_iload_n hx hb dX3_advance_0 rfl (lv_at hl 1 rfl) ?_
  refine lv_if_lt (tgt := 11) hx hb dX3_advance_1 (by decide) (fun hc => ?_) (fun hc => ?_)
  · have hf := pr_t hf hc
    obtain rfl := Option.some.inj hf
    subst hZ
    exact px_throw (cls := "java/lang/IllegalArgumentException") (text := "ticks is not 0 to 1000") hx hb hst hown kc64 ki64 hat68 (by decide +kernel) (by decide +kernel) (by decide +kernel) (by decide +kernel) (by decide +kernel) hT hS hK hP hD (hl.1.trans hml.symm) dX3_advance_11 dX3_advance_14 dX3_advance_15 dX3_advance_17 dX3_advance_20 hex (Nat.le_of_ble_eq_true rfl) (Nat.le_of_ble_eq_true rfl) (Nat.le_of_ble_eq_true rfl) (Nat.le_of_ble_eq_true rfl) hlocks rfl (Nat.le_of_ble_eq_true rfl) (Nat.le_of_ble_eq_true rfl)
  · have hf := pr_f hf hc
    refine lv_iload_n hx hb dX3_advance_4 rfl (lv_at hl 1 rfl) ?_
    refine lv_sipush (v := (1000 : Int32)) hx hb dX3_advance_5 (by decide) ?_
    refine lv_icmp_le (tgt := 21) hx hb dX3_advance_8 (by decide) (fun hc => ?_) (fun hc => ?_)
    · have hf := pr_t hf hc
      refine lv_aload_n hx hb dX3_advance_21 rfl (lv_at hl 0 rfl) ?_
      refine va_get (D := D) (ci := 3) (v := .ref (ad 2)) (C := RX3) (T := TX3) (N := 3) hx hb hts hiX3 hown hK hP 0 rfl rfl 1 (by decide) f21 (fun _ h9 => h9) rfl dX3_advance_22 ?_
      refine lv_iload_n hx hb dX3_advance_25 rfl (lv_at hl 1 rfl) ?_
      obtain ⟨x26, hg26, hf⟩ := pr_b hf
      refine pw_cViW (b := ad 2) (As := [.int v1]) (rest := []) ⟨hx, hb, hml, hown, hts⟩ (c_X0_goOn fu (D := D) c_states c_transitions c_timerEvent c_from c_event c_next c_variable c_relation c_number c_actions c_kind c_a c_b c_present c_now c_emits c_kept c_ignores c_values c_due c_outputs c_fired c_made c_classes c_size c_taken c_stateClass c_finerClass c_usedBits c_offsets c_owners v1 hg26) (cwV 1 hts gX3_advance_X0_goOn rfl rfl rfl (by decide +kernel) ⟨Nat.le_of_ble_eq_true rfl, Nat.le_of_ble_eq_true rfl⟩) 2 0 rfl rfl hK hP hD hS hA rfl hl.1 rfl (Nat.le_of_ble_eq_true rfl) dX3_advance_26 ⟨Nat.le_of_ble_eq_true rfl, Nat.le_of_ble_eq_true rfl⟩ (fun H locs hP hD hS => ?_)
      have hP : va_P D vwCl (CW ad ca c_states c_transitions c_timerEvent c_from c_event c_next c_variable c_relation c_number c_actions c_kind c_a c_b x26.2.1 x26.2.2.1 x26.2.2.2.1 x26.2.2.2.2.1 x26.2.2.2.2.2.1 x26.2.2.2.2.2.2.1 x26.2.2.2.2.2.2.2.1 x26.2.2.2.2.2.2.2.2.1 x26.2.2.2.2.2.2.2.2.2 c_made c_classes c_size c_taken c_stateClass c_finerClass c_usedBits c_offsets c_owners) H := hP
      have hD : va_D A (CW ad ca c_states c_transitions c_timerEvent c_from c_event c_next c_variable c_relation c_number c_actions c_kind c_a c_b x26.2.1 x26.2.2.1 x26.2.2.2.1 x26.2.2.2.2.1 x26.2.2.2.2.2.1 x26.2.2.2.2.2.2.1 x26.2.2.2.2.2.2.2.1 x26.2.2.2.2.2.2.2.2.1 x26.2.2.2.2.2.2.2.2.2 c_made c_classes c_size c_taken c_stateClass c_finerClass c_usedBits c_offsets c_owners) := hD
      obtain rfl := Option.some.inj hf
      subst hZ
      exact px_ri hx hb hr hlocks rfl rfl hK hP hD hS (Nat.le_of_ble_eq_true rfl) (Nat.le_of_ble_eq_true rfl) dX3_advance_29
    · have hf := pr_f hf hc
      obtain rfl := Option.some.inj hf
      subst hZ
      exact px_throw (cls := "java/lang/IllegalArgumentException") (text := "ticks is not 0 to 1000") hx hb hst hown kc64 ki64 hat68 (by decide +kernel) (by decide +kernel) (by decide +kernel) (by decide +kernel) (by decide +kernel) hT hS hK hP hD (hl.1.trans hml.symm) dX3_advance_11 dX3_advance_14 dX3_advance_15 dX3_advance_17 dX3_advance_20 hex (Nat.le_of_ble_eq_true rfl) (Nat.le_of_ble_eq_true rfl) (Nat.le_of_ble_eq_true rfl) (Nat.le_of_ble_eq_true rfl) hlocks rfl (Nat.le_of_ble_eq_true rfl) (Nat.le_of_ble_eq_true rfl)
abbrev rmX3_state : Room := { frames := 0, cells := 0, slots := 0, locals := 0 }
set_option maxHeartbeats 4000000 in
set_option maxRecDepth 100000 in
theorem c_X3_state {l : Launch} {D : va_G} {ad : Nat → Nat} {ca : Nat → ClassId} (c_states c_transitions : Int32) (c_timerEvent c_from c_event c_next c_variable c_relation c_number c_actions c_kind c_a c_b : Nat → Int32) (c_present : Int32) (c_now : Int64) (c_emits c_kept c_ignores : Int32) (c_values : Nat → Int32) (c_due : Nat → Int64) (c_outputs c_fired : Nat → Int32) (c_made c_classes c_size c_taken : Int32) (c_stateClass c_finerClass c_usedBits c_offsets c_owners : Nat → Int32) {o : Int32} (hf : X3_state c_present = some o) : Ci l yX3_state wsX3_state rmX3_state D (CT ca) (CW ad ca c_states c_transitions c_timerEvent c_from c_event c_next c_variable c_relation c_number c_actions c_kind c_a c_b c_present c_now c_emits c_kept c_ignores c_values c_due c_outputs c_fired c_made c_classes c_size c_taken c_stateClass c_finerClass c_usedBits c_offsets c_owners) [.ref (ad 0)] o (CW ad ca c_states c_transitions c_timerEvent c_from c_event c_next c_variable c_relation c_number c_actions c_kind c_a c_b c_present c_now c_emits c_kept c_ignores c_values c_due c_outputs c_fired c_made c_classes c_size c_taken c_stateClass c_finerClass c_usedBits c_offsets c_owners) := by
  intro sz
  refine pw_entry (Qc := fun A => pw_Qi D (CT ca) (CW ad ca c_states c_transitions c_timerEvent c_from c_event c_next c_variable c_relation c_number c_actions c_kind c_a c_b c_present c_now c_emits c_kept c_ignores c_values c_due c_outputs c_fired c_made c_classes c_size c_taken c_stateClass c_finerClass c_usedBits c_offsets c_owners) A o) (cc := cX3_state) (maxL := 1) (ret := (some .int)) (by decide) rfl (Nat.le_of_ble_eq_true rfl) ?_ sz
  intro p e s m args below meth c A ls Z H locs hx hb hr hlocks hts hown hml hnm hK hP hD hS hA hl hZ
  have hown : s.vm.findClass RX3 = some m.cls := hown
  have hiX0 : ∀ w ∈ u_ws RX0 TX0 10, w ∈ wsX3_state := by decide +kernel
  have hiX3 : ∀ w ∈ u_ws RX3 TX3 3, w ∈ wsX3_state := by decide +kernel
  have f129 := hts (.fieldLink RX3 129 "ProtocolMachine$Execution" "present" "I") (by decide +kernel)
  have f21 := hts (.fieldLink RX3 21 "ProtocolMachine" "execution" "LProtocolMachine$Execution;") (by decide +kernel)
  have hl : lv_has ls 1 [(0, .ref (ad 0))] := hl
  unfold X3_state at hf
  refine lv_aload_n hx hb dX3_state_0 rfl (lv_at hl 0 rfl) ?_
  refine va_get (D := D) (ci := 3) (v := .ref (ad 2)) (C := RX3) (T := TX3) (N := 3) hx hb hts hiX3 hown hK hP 0 rfl rfl 1 (by decide) f21 (fun _ h9 => h9) rfl dX3_state_1 ?_
  refine va_get (D := D) (ci := 0) (v := .int c_present) (C := RX0) (T := TX0) (N := 10) hx hb hts hiX0 hown hK hP 2 rfl rfl 1 (by decide) f129 (fun _ h9 => h9) rfl dX3_state_4 ?_
  obtain rfl := Option.some.inj hf
  subst hZ
  exact pw_ri hx hb hr hlocks hK hP hD hS (Nat.le_of_ble_eq_true rfl) (Nat.le_of_ble_eq_true rfl) dX3_state_7
abbrev rmX3_time : Room := { frames := 0, cells := 0, slots := 0, locals := 0 }
set_option maxHeartbeats 4000000 in
set_option maxRecDepth 100000 in
theorem c_X3_time {l : Launch} {D : va_G} {ad : Nat → Nat} {ca : Nat → ClassId} (c_states c_transitions : Int32) (c_timerEvent c_from c_event c_next c_variable c_relation c_number c_actions c_kind c_a c_b : Nat → Int32) (c_present : Int32) (c_now : Int64) (c_emits c_kept c_ignores : Int32) (c_values : Nat → Int32) (c_due : Nat → Int64) (c_outputs c_fired : Nat → Int32) (c_made c_classes c_size c_taken : Int32) (c_stateClass c_finerClass c_usedBits c_offsets c_owners : Nat → Int32) {o : Int64} (hf : X3_time c_now = some o) : Cl l yX3_time wsX3_time rmX3_time D (CT ca) (CW ad ca c_states c_transitions c_timerEvent c_from c_event c_next c_variable c_relation c_number c_actions c_kind c_a c_b c_present c_now c_emits c_kept c_ignores c_values c_due c_outputs c_fired c_made c_classes c_size c_taken c_stateClass c_finerClass c_usedBits c_offsets c_owners) [.ref (ad 0)] o (CW ad ca c_states c_transitions c_timerEvent c_from c_event c_next c_variable c_relation c_number c_actions c_kind c_a c_b c_present c_now c_emits c_kept c_ignores c_values c_due c_outputs c_fired c_made c_classes c_size c_taken c_stateClass c_finerClass c_usedBits c_offsets c_owners) := by
  intro sz
  refine pw_entry (Qc := fun A => pw_Ql D (CT ca) (CW ad ca c_states c_transitions c_timerEvent c_from c_event c_next c_variable c_relation c_number c_actions c_kind c_a c_b c_present c_now c_emits c_kept c_ignores c_values c_due c_outputs c_fired c_made c_classes c_size c_taken c_stateClass c_finerClass c_usedBits c_offsets c_owners) A o) (cc := cX3_time) (maxL := 1) (ret := (some .long)) (by decide) rfl (Nat.le_of_ble_eq_true rfl) ?_ sz
  intro p e s m args below meth c A ls Z H locs hx hb hr hlocks hts hown hml hnm hK hP hD hS hA hl hZ
  have hown : s.vm.findClass RX3 = some m.cls := hown
  have hiX0 : ∀ w ∈ u_ws RX0 TX0 10, w ∈ wsX3_time := by decide +kernel
  have hiX3 : ∀ w ∈ u_ws RX3 TX3 3, w ∈ wsX3_time := by decide +kernel
  have f113 := hts (.fieldLink RX3 113 "ProtocolMachine$Execution" "now" "J") (by decide +kernel)
  have f21 := hts (.fieldLink RX3 21 "ProtocolMachine" "execution" "LProtocolMachine$Execution;") (by decide +kernel)
  have hl : lv_has ls 1 [(0, .ref (ad 0))] := hl
  unfold X3_time at hf
  refine lv_aload_n hx hb dX3_time_0 rfl (lv_at hl 0 rfl) ?_
  refine va_get (D := D) (ci := 3) (v := .ref (ad 2)) (C := RX3) (T := TX3) (N := 3) hx hb hts hiX3 hown hK hP 0 rfl rfl 1 (by decide) f21 (fun _ h9 => h9) rfl dX3_time_1 ?_
  refine va_get (D := D) (ci := 0) (v := .long c_now) (C := RX0) (T := TX0) (N := 10) hx hb hts hiX0 hown hK hP 2 rfl rfl 2 (by decide) f113 (fun _ h9 => h9) rfl dX3_time_4 ?_
  obtain rfl := Option.some.inj hf
  subst hZ
  exact pw_rl hx hb hr hlocks hK hP hD hS (Nat.le_of_ble_eq_true rfl) (Nat.le_of_ble_eq_true rfl) dX3_time_7
abbrev rmX3_value : Room := { frames := 6, cells := 1, slots := 6, locals := 90 }
set_option maxHeartbeats 4000000 in
set_option maxRecDepth 100000 in
theorem c_X3_value {l : Launch} {D : va_G} {ad : Nat → Nat} {ca : Nat → ClassId} (hst : l.stackTraces = false) (c_states c_transitions : Int32) (c_timerEvent c_from c_event c_next c_variable c_relation c_number c_actions c_kind c_a c_b : Nat → Int32) (c_present : Int32) (c_now : Int64) (c_emits c_kept c_ignores : Int32) (c_values : Nat → Int32) (c_due : Nat → Int64) (c_outputs c_fired : Nat → Int32) (c_made c_classes c_size c_taken : Int32) (c_stateClass c_finerClass c_usedBits c_offsets c_owners : Nat → Int32) (v1 : Int32) {o : String ⊕ (Int32)} (hf : X3_value c_values v1 = some o) : Xi l yX3_value wsX3_value rmX3_value D (CT ca) (CW ad ca c_states c_transitions c_timerEvent c_from c_event c_next c_variable c_relation c_number c_actions c_kind c_a c_b c_present c_now c_emits c_kept c_ignores c_values c_due c_outputs c_fired c_made c_classes c_size c_taken c_stateClass c_finerClass c_usedBits c_offsets c_owners) [.ref (ad 0), .int v1] o (fun (u : Int32) => u) (fun (u : Int32) => (CW ad ca c_states c_transitions c_timerEvent c_from c_event c_next c_variable c_relation c_number c_actions c_kind c_a c_b c_present c_now c_emits c_kept c_ignores c_values c_due c_outputs c_fired c_made c_classes c_size c_taken c_stateClass c_finerClass c_usedBits c_offsets c_owners)) := by
  intro sz
  refine px_entry (Qc := fun A => px_Qi D (CT ca) (fun (u : Int32) => (CW ad ca c_states c_transitions c_timerEvent c_from c_event c_next c_variable c_relation c_number c_actions c_kind c_a c_b c_present c_now c_emits c_kept c_ignores c_values c_due c_outputs c_fired c_made c_classes c_size c_taken c_stateClass c_finerClass c_usedBits c_offsets c_owners)) A o (fun (u : Int32) => u)) (XC := fun A => px_X D (CT ca) (CW ad ca c_states c_transitions c_timerEvent c_from c_event c_next c_variable c_relation c_number c_actions c_kind c_a c_b c_present c_now c_emits c_kept c_ignores c_values c_due c_outputs c_fired c_made c_classes c_size c_taken c_stateClass c_finerClass c_usedBits c_offsets c_owners) A o) (cc := cX3_value) (maxL := 2) (ret := (some .int)) (by decide) rfl (Nat.le_of_ble_eq_true rfl) ?_ sz
  intro p e s m args below meth c A ls Z H locs hx hb hr hlocks hts hown hml hnm hK hP hD hS hA hl hT hex hZ
  have hown : s.vm.findClass RX3 = some m.cls := hown
  have hiX0 : ∀ w ∈ u_ws RX0 TX0 10, w ∈ wsX3_value := by decide +kernel
  have hiX3 : ∀ w ∈ u_ws RX3 TX3 3, w ∈ wsX3_value := by decide +kernel
  have f132 := hts (.fieldLink RX3 132 "ProtocolMachine$Execution" "values" "[I") (by decide +kernel)
  have f21 := hts (.fieldLink RX3 21 "ProtocolMachine" "execution" "LProtocolMachine$Execution;") (by decide +kernel)
  have kc51 := hts (.classLink RX3 51 "java/lang/IndexOutOfBoundsException") (by decide +kernel)
  have ki51 := hts (.initialized "java/lang/IndexOutOfBoundsException") (by decide +kernel)
  have hat55 : ∀ w ∈ (vx_atS RX3 55 "java/lang/IndexOutOfBoundsException" ["java/lang/RuntimeException", "java/lang/Exception"]).filter goodWord, w.before args s = true := fun w h => hts w (List.mem_cons_of_mem _ (List.mem_append_right _ h))
  have hl : lv_has ls 2 [(0, .ref (ad 0)), (1, .int v1)] := hl
  unfold X3_value at hf
  refine lv_iload_n hx hb dX3_value_0 rfl (lv_at hl 1 rfl) ?_
  refine lv_iconst (v := (3 : Int32)) hx hb dX3_value_1 (by decide) ?_
  obtain ⟨x2, hg2, hf⟩ := pr_b hf
  refine pw_cSiE (As := [.int v1, .int (3 : Int32)]) (rest := []) ⟨hx, hb, hml, hown, hts⟩ (c_X3_isBelow (D := D) (tys := (CT ca)) v1 (3 : Int32) hg2) (va_cwS 2 hts gX3_value_X3_isBelow rfl rfl rfl (by decide +kernel) ⟨Nat.le_of_ble_eq_true rfl, Nat.le_of_ble_eq_true rfl⟩) hK hP hD hS hA rfl hl.1 rfl (Nat.le_of_ble_eq_true rfl) dX3_value_2 ⟨Nat.le_of_ble_eq_true rfl, Nat.le_of_ble_eq_true rfl⟩ (fun H locs hP hD hS => ?_)
  refine lv_if_ne (tgt := 18) hx hb dX3_value_5 (by decide) (fun hc => ?_) (fun hc => ?_)
  · have hf := pr_f hf hc
    refine lv_aload_n hx hb dX3_value_18 rfl (lv_at hl 0 rfl) ?_
    refine va_get (D := D) (ci := 3) (v := .ref (ad 2)) (C := RX3) (T := TX3) (N := 3) hx hb hts hiX3 hown hK hP 0 rfl rfl 1 (by decide) f21 (fun _ h9 => h9) rfl dX3_value_19 ?_
    refine va_get (D := D) (ci := 0) (v := .ref (ad 15)) (C := RX0) (T := TX0) (N := 10) hx hb hts hiX0 hown hK hP 2 rfl rfl 6 (by decide) f132 (fun _ h9 => h9) rfl dX3_value_22 ?_
    refine lv_iload_n hx hb dX3_value_25 rfl (lv_at hl 1 rfl) ?_
    obtain ⟨hi26, hf⟩ := pr_in hf
    refine va_iald hx hb hK hP 15 11 rfl rfl hi26 dX3_value_26 ?_
    obtain rfl := Option.some.inj hf
    subst hZ
    exact px_ri hx hb hr hlocks rfl rfl hK hP hD hS (Nat.le_of_ble_eq_true rfl) (Nat.le_of_ble_eq_true rfl) dX3_value_27
  · have hf := pr_t hf hc
    obtain rfl := Option.some.inj hf
    subst hZ
    exact px_throw (cls := "java/lang/IndexOutOfBoundsException") (text := "there is no such variable") hx hb hst hown kc51 ki51 hat55 (by decide +kernel) (by decide +kernel) (by decide +kernel) (by decide +kernel) (by decide +kernel) hT hS hK hP hD (hl.1.trans hml.symm) dX3_value_8 dX3_value_11 dX3_value_12 dX3_value_14 dX3_value_17 hex (Nat.le_of_ble_eq_true rfl) (Nat.le_of_ble_eq_true rfl) (Nat.le_of_ble_eq_true rfl) (Nat.le_of_ble_eq_true rfl) hlocks rfl (Nat.le_of_ble_eq_true rfl) (Nat.le_of_ble_eq_true rfl)
abbrev rmX3_left : Room := { frames := 6, cells := 1, slots := 6, locals := 90 }
set_option maxHeartbeats 4000000 in
set_option maxRecDepth 100000 in
theorem c_X3_left {l : Launch} {D : va_G} {ad : Nat → Nat} {ca : Nat → ClassId} (hst : l.stackTraces = false) (c_states c_transitions : Int32) (c_timerEvent c_from c_event c_next c_variable c_relation c_number c_actions c_kind c_a c_b : Nat → Int32) (c_present : Int32) (c_now : Int64) (c_emits c_kept c_ignores : Int32) (c_values : Nat → Int32) (c_due : Nat → Int64) (c_outputs c_fired : Nat → Int32) (c_made c_classes c_size c_taken : Int32) (c_stateClass c_finerClass c_usedBits c_offsets c_owners : Nat → Int32) (v1 : Int32) {o : String ⊕ (Int32)} (hf : X3_left c_now c_due v1 = some o) : Xi l yX3_left wsX3_left rmX3_left D (CT ca) (CW ad ca c_states c_transitions c_timerEvent c_from c_event c_next c_variable c_relation c_number c_actions c_kind c_a c_b c_present c_now c_emits c_kept c_ignores c_values c_due c_outputs c_fired c_made c_classes c_size c_taken c_stateClass c_finerClass c_usedBits c_offsets c_owners) [.ref (ad 0), .int v1] o (fun (u : Int32) => u) (fun (u : Int32) => (CW ad ca c_states c_transitions c_timerEvent c_from c_event c_next c_variable c_relation c_number c_actions c_kind c_a c_b c_present c_now c_emits c_kept c_ignores c_values c_due c_outputs c_fired c_made c_classes c_size c_taken c_stateClass c_finerClass c_usedBits c_offsets c_owners)) := by
  intro sz
  refine px_entry (Qc := fun A => px_Qi D (CT ca) (fun (u : Int32) => (CW ad ca c_states c_transitions c_timerEvent c_from c_event c_next c_variable c_relation c_number c_actions c_kind c_a c_b c_present c_now c_emits c_kept c_ignores c_values c_due c_outputs c_fired c_made c_classes c_size c_taken c_stateClass c_finerClass c_usedBits c_offsets c_owners)) A o (fun (u : Int32) => u)) (XC := fun A => px_X D (CT ca) (CW ad ca c_states c_transitions c_timerEvent c_from c_event c_next c_variable c_relation c_number c_actions c_kind c_a c_b c_present c_now c_emits c_kept c_ignores c_values c_due c_outputs c_fired c_made c_classes c_size c_taken c_stateClass c_finerClass c_usedBits c_offsets c_owners) A o) (cc := cX3_left) (maxL := 2) (ret := (some .int)) (by decide) rfl (Nat.le_of_ble_eq_true rfl) ?_ sz
  intro p e s m args below meth c A ls Z H locs hx hb hr hlocks hts hown hml hnm hK hP hD hS hA hl hT hex hZ
  have hown : s.vm.findClass RX3 = some m.cls := hown
  have hiX3 : ∀ w ∈ u_ws RX3 TX3 3, w ∈ wsX3_left := by decide +kernel
  have f21 := hts (.fieldLink RX3 21 "ProtocolMachine" "execution" "LProtocolMachine$Execution;") (by decide +kernel)
  have kc51 := hts (.classLink RX3 51 "java/lang/IndexOutOfBoundsException") (by decide +kernel)
  have ki51 := hts (.initialized "java/lang/IndexOutOfBoundsException") (by decide +kernel)
  have hat55 : ∀ w ∈ (vx_atS RX3 55 "java/lang/IndexOutOfBoundsException" ["java/lang/RuntimeException", "java/lang/Exception"]).filter goodWord, w.before args s = true := fun w h => hts w (List.mem_cons_of_mem _ (List.mem_append_right _ h))
  have hl : lv_has ls 2 [(0, .ref (ad 0)), (1, .int v1)] := hl
  unfold X3_left at hf
  refine lv_iload_n hx hb dX3_left_0 rfl (lv_at hl 1 rfl) ?_
  refine lv_iconst (v := (4 : Int32)) hx hb dX3_left_1 (by decide) ?_
  obtain ⟨x2, hg2, hf⟩ := pr_b hf
  refine pw_cSiE (As := [.int v1, .int (4 : Int32)]) (rest := []) ⟨hx, hb, hml, hown, hts⟩ (c_X3_isBelow (D := D) (tys := (CT ca)) v1 (4 : Int32) hg2) (va_cwS 2 hts gX3_left_X3_isBelow rfl rfl rfl (by decide +kernel) ⟨Nat.le_of_ble_eq_true rfl, Nat.le_of_ble_eq_true rfl⟩) hK hP hD hS hA rfl hl.1 rfl (Nat.le_of_ble_eq_true rfl) dX3_left_2 ⟨Nat.le_of_ble_eq_true rfl, Nat.le_of_ble_eq_true rfl⟩ (fun H locs hP hD hS => ?_)
  refine lv_if_ne (tgt := 18) hx hb dX3_left_5 (by decide) (fun hc => ?_) (fun hc => ?_)
  · have hf := pr_f hf hc
    refine lv_aload_n hx hb dX3_left_18 rfl (lv_at hl 0 rfl) ?_
    refine va_get (D := D) (ci := 3) (v := .ref (ad 2)) (C := RX3) (T := TX3) (N := 3) hx hb hts hiX3 hown hK hP 0 rfl rfl 1 (by decide) f21 (fun _ h9 => h9) rfl dX3_left_19 ?_
    refine lv_iload_n hx hb dX3_left_22 rfl (lv_at hl 1 rfl) ?_
    obtain ⟨x23, hg23, hf⟩ := pr_b hf
    refine pw_cViW (b := ad 2) (As := [.int v1]) (rest := []) ⟨hx, hb, hml, hown, hts⟩ (c_X0_ticksLeft (D := D) c_states c_transitions c_timerEvent c_from c_event c_next c_variable c_relation c_number c_actions c_kind c_a c_b c_present c_now c_emits c_kept c_ignores c_values c_due c_outputs c_fired c_made c_classes c_size c_taken c_stateClass c_finerClass c_usedBits c_offsets c_owners v1 hg23) (cwV 1 hts gX3_left_X0_ticksLeft rfl rfl rfl (by decide +kernel) ⟨Nat.le_of_ble_eq_true rfl, Nat.le_of_ble_eq_true rfl⟩) 2 0 rfl rfl hK hP hD hS hA rfl hl.1 rfl (Nat.le_of_ble_eq_true rfl) dX3_left_23 ⟨Nat.le_of_ble_eq_true rfl, Nat.le_of_ble_eq_true rfl⟩ (fun H locs hP hD hS => ?_)
    obtain rfl := Option.some.inj hf
    subst hZ
    exact px_ri hx hb hr hlocks rfl rfl hK hP hD hS (Nat.le_of_ble_eq_true rfl) (Nat.le_of_ble_eq_true rfl) dX3_left_26
  · have hf := pr_t hf hc
    obtain rfl := Option.some.inj hf
    subst hZ
    exact px_throw (cls := "java/lang/IndexOutOfBoundsException") (text := "there is no such timer") hx hb hst hown kc51 ki51 hat55 (by decide +kernel) (by decide +kernel) (by decide +kernel) (by decide +kernel) (by decide +kernel) hT hS hK hP hD (hl.1.trans hml.symm) dX3_left_8 dX3_left_11 dX3_left_12 dX3_left_14 dX3_left_17 hex (Nat.le_of_ble_eq_true rfl) (Nat.le_of_ble_eq_true rfl) (Nat.le_of_ble_eq_true rfl) (Nat.le_of_ble_eq_true rfl) hlocks rfl (Nat.le_of_ble_eq_true rfl) (Nat.le_of_ble_eq_true rfl)
abbrev rmX3_emitted : Room := { frames := 0, cells := 0, slots := 0, locals := 0 }
set_option maxHeartbeats 4000000 in
set_option maxRecDepth 100000 in
theorem c_X3_emitted {l : Launch} {D : va_G} {ad : Nat → Nat} {ca : Nat → ClassId} (c_states c_transitions : Int32) (c_timerEvent c_from c_event c_next c_variable c_relation c_number c_actions c_kind c_a c_b : Nat → Int32) (c_present : Int32) (c_now : Int64) (c_emits c_kept c_ignores : Int32) (c_values : Nat → Int32) (c_due : Nat → Int64) (c_outputs c_fired : Nat → Int32) (c_made c_classes c_size c_taken : Int32) (c_stateClass c_finerClass c_usedBits c_offsets c_owners : Nat → Int32) {o : Int32} (hf : X3_emitted c_emits = some o) : Ci l yX3_emitted wsX3_emitted rmX3_emitted D (CT ca) (CW ad ca c_states c_transitions c_timerEvent c_from c_event c_next c_variable c_relation c_number c_actions c_kind c_a c_b c_present c_now c_emits c_kept c_ignores c_values c_due c_outputs c_fired c_made c_classes c_size c_taken c_stateClass c_finerClass c_usedBits c_offsets c_owners) [.ref (ad 0)] o (CW ad ca c_states c_transitions c_timerEvent c_from c_event c_next c_variable c_relation c_number c_actions c_kind c_a c_b c_present c_now c_emits c_kept c_ignores c_values c_due c_outputs c_fired c_made c_classes c_size c_taken c_stateClass c_finerClass c_usedBits c_offsets c_owners) := by
  intro sz
  refine pw_entry (Qc := fun A => pw_Qi D (CT ca) (CW ad ca c_states c_transitions c_timerEvent c_from c_event c_next c_variable c_relation c_number c_actions c_kind c_a c_b c_present c_now c_emits c_kept c_ignores c_values c_due c_outputs c_fired c_made c_classes c_size c_taken c_stateClass c_finerClass c_usedBits c_offsets c_owners) A o) (cc := cX3_emitted) (maxL := 1) (ret := (some .int)) (by decide) rfl (Nat.le_of_ble_eq_true rfl) ?_ sz
  intro p e s m args below meth c A ls Z H locs hx hb hr hlocks hts hown hml hnm hK hP hD hS hA hl hZ
  have hown : s.vm.findClass RX3 = some m.cls := hown
  have hiX0 : ∀ w ∈ u_ws RX0 TX0 10, w ∈ wsX3_emitted := by decide +kernel
  have hiX3 : ∀ w ∈ u_ws RX3 TX3 3, w ∈ wsX3_emitted := by decide +kernel
  have f140 := hts (.fieldLink RX3 140 "ProtocolMachine$Execution" "emits" "I") (by decide +kernel)
  have f21 := hts (.fieldLink RX3 21 "ProtocolMachine" "execution" "LProtocolMachine$Execution;") (by decide +kernel)
  have hl : lv_has ls 1 [(0, .ref (ad 0))] := hl
  unfold X3_emitted at hf
  refine lv_aload_n hx hb dX3_emitted_0 rfl (lv_at hl 0 rfl) ?_
  refine va_get (D := D) (ci := 3) (v := .ref (ad 2)) (C := RX3) (T := TX3) (N := 3) hx hb hts hiX3 hown hK hP 0 rfl rfl 1 (by decide) f21 (fun _ h9 => h9) rfl dX3_emitted_1 ?_
  refine va_get (D := D) (ci := 0) (v := .int c_emits) (C := RX0) (T := TX0) (N := 10) hx hb hts hiX0 hown hK hP 2 rfl rfl 3 (by decide) f140 (fun _ h9 => h9) rfl dX3_emitted_4 ?_
  obtain rfl := Option.some.inj hf
  subst hZ
  exact pw_ri hx hb hr hlocks hK hP hD hS (Nat.le_of_ble_eq_true rfl) (Nat.le_of_ble_eq_true rfl) dX3_emitted_7
abbrev rmX3_output : Room := { frames := 6, cells := 1, slots := 6, locals := 90 }
set_option maxHeartbeats 4000000 in
set_option maxRecDepth 100000 in
theorem c_X3_output {l : Launch} {D : va_G} {ad : Nat → Nat} {ca : Nat → ClassId} (hst : l.stackTraces = false) (c_states c_transitions : Int32) (c_timerEvent c_from c_event c_next c_variable c_relation c_number c_actions c_kind c_a c_b : Nat → Int32) (c_present : Int32) (c_now : Int64) (c_emits c_kept c_ignores : Int32) (c_values : Nat → Int32) (c_due : Nat → Int64) (c_outputs c_fired : Nat → Int32) (c_made c_classes c_size c_taken : Int32) (c_stateClass c_finerClass c_usedBits c_offsets c_owners : Nat → Int32) (v1 : Int32) {o : String ⊕ (Int32)} (hf : X3_output c_kept c_outputs v1 = some o) : Xi l yX3_output wsX3_output rmX3_output D (CT ca) (CW ad ca c_states c_transitions c_timerEvent c_from c_event c_next c_variable c_relation c_number c_actions c_kind c_a c_b c_present c_now c_emits c_kept c_ignores c_values c_due c_outputs c_fired c_made c_classes c_size c_taken c_stateClass c_finerClass c_usedBits c_offsets c_owners) [.ref (ad 0), .int v1] o (fun (u : Int32) => u) (fun (u : Int32) => (CW ad ca c_states c_transitions c_timerEvent c_from c_event c_next c_variable c_relation c_number c_actions c_kind c_a c_b c_present c_now c_emits c_kept c_ignores c_values c_due c_outputs c_fired c_made c_classes c_size c_taken c_stateClass c_finerClass c_usedBits c_offsets c_owners)) := by
  intro sz
  refine px_entry (Qc := fun A => px_Qi D (CT ca) (fun (u : Int32) => (CW ad ca c_states c_transitions c_timerEvent c_from c_event c_next c_variable c_relation c_number c_actions c_kind c_a c_b c_present c_now c_emits c_kept c_ignores c_values c_due c_outputs c_fired c_made c_classes c_size c_taken c_stateClass c_finerClass c_usedBits c_offsets c_owners)) A o (fun (u : Int32) => u)) (XC := fun A => px_X D (CT ca) (CW ad ca c_states c_transitions c_timerEvent c_from c_event c_next c_variable c_relation c_number c_actions c_kind c_a c_b c_present c_now c_emits c_kept c_ignores c_values c_due c_outputs c_fired c_made c_classes c_size c_taken c_stateClass c_finerClass c_usedBits c_offsets c_owners) A o) (cc := cX3_output) (maxL := 2) (ret := (some .int)) (by decide) rfl (Nat.le_of_ble_eq_true rfl) ?_ sz
  intro p e s m args below meth c A ls Z H locs hx hb hr hlocks hts hown hml hnm hK hP hD hS hA hl hT hex hZ
  have hown : s.vm.findClass RX3 = some m.cls := hown
  have hiX0 : ∀ w ∈ u_ws RX0 TX0 10, w ∈ wsX3_output := by decide +kernel
  have hiX3 : ∀ w ∈ u_ws RX3 TX3 3, w ∈ wsX3_output := by decide +kernel
  have f143 := hts (.fieldLink RX3 143 "ProtocolMachine$Execution" "kept" "I") (by decide +kernel)
  have f148 := hts (.fieldLink RX3 148 "ProtocolMachine$Execution" "outputs" "[I") (by decide +kernel)
  have f21 := hts (.fieldLink RX3 21 "ProtocolMachine" "execution" "LProtocolMachine$Execution;") (by decide +kernel)
  have kc51 := hts (.classLink RX3 51 "java/lang/IndexOutOfBoundsException") (by decide +kernel)
  have ki51 := hts (.initialized "java/lang/IndexOutOfBoundsException") (by decide +kernel)
  have hat55 : ∀ w ∈ (vx_atS RX3 55 "java/lang/IndexOutOfBoundsException" ["java/lang/RuntimeException", "java/lang/Exception"]).filter goodWord, w.before args s = true := fun w h => hts w (List.mem_cons_of_mem _ (List.mem_append_right _ h))
  have hl : lv_has ls 2 [(0, .ref (ad 0)), (1, .int v1)] := hl
  unfold X3_output at hf
  refine lv_iload_n hx hb dX3_output_0 rfl (lv_at hl 1 rfl) ?_
  refine lv_aload_n hx hb dX3_output_1 rfl (lv_at hl 0 rfl) ?_
  refine va_get (D := D) (ci := 3) (v := .ref (ad 2)) (C := RX3) (T := TX3) (N := 3) hx hb hts hiX3 hown hK hP 0 rfl rfl 1 (by decide) f21 (fun _ h9 => h9) rfl dX3_output_2 ?_
  refine va_get (D := D) (ci := 0) (v := .int c_kept) (C := RX0) (T := TX0) (N := 10) hx hb hts hiX0 hown hK hP 2 rfl rfl 4 (by decide) f143 (fun _ h9 => h9) rfl dX3_output_5 ?_
  obtain ⟨x8, hg8, hf⟩ := pr_b hf
  refine pw_cSiE (As := [.int v1, .int c_kept]) (rest := []) ⟨hx, hb, hml, hown, hts⟩ (c_X3_isBelow (D := D) (tys := (CT ca)) v1 c_kept hg8) (va_cwS 2 hts gX3_output_X3_isBelow rfl rfl rfl (by decide +kernel) ⟨Nat.le_of_ble_eq_true rfl, Nat.le_of_ble_eq_true rfl⟩) hK hP hD hS hA rfl hl.1 rfl (Nat.le_of_ble_eq_true rfl) dX3_output_8 ⟨Nat.le_of_ble_eq_true rfl, Nat.le_of_ble_eq_true rfl⟩ (fun H locs hP hD hS => ?_)
  refine lv_if_ne (tgt := 24) hx hb dX3_output_11 (by decide) (fun hc => ?_) (fun hc => ?_)
  · have hf := pr_f hf hc
    refine lv_aload_n hx hb dX3_output_24 rfl (lv_at hl 0 rfl) ?_
    refine va_get (D := D) (ci := 3) (v := .ref (ad 2)) (C := RX3) (T := TX3) (N := 3) hx hb hts hiX3 hown hK hP 0 rfl rfl 1 (by decide) f21 (fun _ h9 => h9) rfl dX3_output_25 ?_
    refine va_get (D := D) (ci := 0) (v := .ref (ad 17)) (C := RX0) (T := TX0) (N := 10) hx hb hts hiX0 hown hK hP 2 rfl rfl 8 (by decide) f148 (fun _ h9 => h9) rfl dX3_output_28 ?_
    refine lv_iload_n hx hb dX3_output_31 rfl (lv_at hl 1 rfl) ?_
    obtain ⟨hi32, hf⟩ := pr_in hf
    refine va_iald hx hb hK hP 17 13 rfl rfl hi32 dX3_output_32 ?_
    obtain rfl := Option.some.inj hf
    subst hZ
    exact px_ri hx hb hr hlocks rfl rfl hK hP hD hS (Nat.le_of_ble_eq_true rfl) (Nat.le_of_ble_eq_true rfl) dX3_output_33
  · have hf := pr_t hf hc
    obtain rfl := Option.some.inj hf
    subst hZ
    exact px_throw (cls := "java/lang/IndexOutOfBoundsException") (text := "there is no such index in the output") hx hb hst hown kc51 ki51 hat55 (by decide +kernel) (by decide +kernel) (by decide +kernel) (by decide +kernel) (by decide +kernel) hT hS hK hP hD (hl.1.trans hml.symm) dX3_output_14 dX3_output_17 dX3_output_18 dX3_output_20 dX3_output_23 hex (Nat.le_of_ble_eq_true rfl) (Nat.le_of_ble_eq_true rfl) (Nat.le_of_ble_eq_true rfl) (Nat.le_of_ble_eq_true rfl) hlocks rfl (Nat.le_of_ble_eq_true rfl) (Nat.le_of_ble_eq_true rfl)
abbrev rmX3_fired : Room := { frames := 6, cells := 1, slots := 6, locals := 90 }
set_option maxHeartbeats 4000000 in
set_option maxRecDepth 100000 in
theorem c_X3_fired {l : Launch} {D : va_G} {ad : Nat → Nat} {ca : Nat → ClassId} (hst : l.stackTraces = false) (c_states c_transitions : Int32) (c_timerEvent c_from c_event c_next c_variable c_relation c_number c_actions c_kind c_a c_b : Nat → Int32) (c_present : Int32) (c_now : Int64) (c_emits c_kept c_ignores : Int32) (c_values : Nat → Int32) (c_due : Nat → Int64) (c_outputs c_fired : Nat → Int32) (c_made c_classes c_size c_taken : Int32) (c_stateClass c_finerClass c_usedBits c_offsets c_owners : Nat → Int32) (v1 : Int32) {o : String ⊕ (Int32)} (hf : X3_fired c_transitions c_fired v1 = some o) : Xi l yX3_fired wsX3_fired rmX3_fired D (CT ca) (CW ad ca c_states c_transitions c_timerEvent c_from c_event c_next c_variable c_relation c_number c_actions c_kind c_a c_b c_present c_now c_emits c_kept c_ignores c_values c_due c_outputs c_fired c_made c_classes c_size c_taken c_stateClass c_finerClass c_usedBits c_offsets c_owners) [.ref (ad 0), .int v1] o (fun (u : Int32) => u) (fun (u : Int32) => (CW ad ca c_states c_transitions c_timerEvent c_from c_event c_next c_variable c_relation c_number c_actions c_kind c_a c_b c_present c_now c_emits c_kept c_ignores c_values c_due c_outputs c_fired c_made c_classes c_size c_taken c_stateClass c_finerClass c_usedBits c_offsets c_owners)) := by
  intro sz
  refine px_entry (Qc := fun A => px_Qi D (CT ca) (fun (u : Int32) => (CW ad ca c_states c_transitions c_timerEvent c_from c_event c_next c_variable c_relation c_number c_actions c_kind c_a c_b c_present c_now c_emits c_kept c_ignores c_values c_due c_outputs c_fired c_made c_classes c_size c_taken c_stateClass c_finerClass c_usedBits c_offsets c_owners)) A o (fun (u : Int32) => u)) (XC := fun A => px_X D (CT ca) (CW ad ca c_states c_transitions c_timerEvent c_from c_event c_next c_variable c_relation c_number c_actions c_kind c_a c_b c_present c_now c_emits c_kept c_ignores c_values c_due c_outputs c_fired c_made c_classes c_size c_taken c_stateClass c_finerClass c_usedBits c_offsets c_owners) A o) (cc := cX3_fired) (maxL := 2) (ret := (some .int)) (by decide) rfl (Nat.le_of_ble_eq_true rfl) ?_ sz
  intro p e s m args below meth c A ls Z H locs hx hb hr hlocks hts hown hml hnm hK hP hD hS hA hl hT hex hZ
  have hown : s.vm.findClass RX3 = some m.cls := hown
  have hiX0 : ∀ w ∈ u_ws RX0 TX0 10, w ∈ wsX3_fired := by decide +kernel
  have hiX1 : ∀ w ∈ u_ws RX1 TX1 13, w ∈ wsX3_fired := by decide +kernel
  have hiX3 : ∀ w ∈ u_ws RX3 TX3 3, w ∈ wsX3_fired := by decide +kernel
  have f12 := hts (.fieldLink RX3 12 "ProtocolMachine" "protocol" "LProtocolMachine$Protocol;") (by decide +kernel)
  have f21 := hts (.fieldLink RX3 21 "ProtocolMachine" "execution" "LProtocolMachine$Execution;") (by decide +kernel)
  have f69 := hts (.fieldLink RX3 69 "ProtocolMachine$Protocol" "transitions" "I") (by decide +kernel)
  have f82 := hts (.fieldLink RX3 82 "ProtocolMachine$Execution" "fired" "[I") (by decide +kernel)
  have kc51 := hts (.classLink RX3 51 "java/lang/IndexOutOfBoundsException") (by decide +kernel)
  have ki51 := hts (.initialized "java/lang/IndexOutOfBoundsException") (by decide +kernel)
  have hat55 : ∀ w ∈ (vx_atS RX3 55 "java/lang/IndexOutOfBoundsException" ["java/lang/RuntimeException", "java/lang/Exception"]).filter goodWord, w.before args s = true := fun w h => hts w (List.mem_cons_of_mem _ (List.mem_append_right _ h))
  have hl : lv_has ls 2 [(0, .ref (ad 0)), (1, .int v1)] := hl
  unfold X3_fired at hf
  refine lv_iload_n hx hb dX3_fired_0 rfl (lv_at hl 1 rfl) ?_
  refine lv_aload_n hx hb dX3_fired_1 rfl (lv_at hl 0 rfl) ?_
  refine va_get (D := D) (ci := 3) (v := .ref (ad 1)) (C := RX3) (T := TX3) (N := 3) hx hb hts hiX3 hown hK hP 0 rfl rfl 0 (by decide) f12 (fun _ h9 => h9) rfl dX3_fired_2 ?_
  refine va_get (D := D) (ci := 1) (v := .int c_transitions) (C := RX1) (T := TX1) (N := 13) hx hb hts hiX1 hown hK hP 1 rfl rfl 1 (by decide) f69 (fun _ h9 => h9) rfl dX3_fired_5 ?_
  obtain ⟨x8, hg8, hf⟩ := pr_b hf
  refine pw_cSiE (As := [.int v1, .int c_transitions]) (rest := []) ⟨hx, hb, hml, hown, hts⟩ (c_X3_isBelow (D := D) (tys := (CT ca)) v1 c_transitions hg8) (va_cwS 2 hts gX3_fired_X3_isBelow rfl rfl rfl (by decide +kernel) ⟨Nat.le_of_ble_eq_true rfl, Nat.le_of_ble_eq_true rfl⟩) hK hP hD hS hA rfl hl.1 rfl (Nat.le_of_ble_eq_true rfl) dX3_fired_8 ⟨Nat.le_of_ble_eq_true rfl, Nat.le_of_ble_eq_true rfl⟩ (fun H locs hP hD hS => ?_)
  refine lv_if_ne (tgt := 24) hx hb dX3_fired_11 (by decide) (fun hc => ?_) (fun hc => ?_)
  · have hf := pr_f hf hc
    refine lv_aload_n hx hb dX3_fired_24 rfl (lv_at hl 0 rfl) ?_
    refine va_get (D := D) (ci := 3) (v := .ref (ad 2)) (C := RX3) (T := TX3) (N := 3) hx hb hts hiX3 hown hK hP 0 rfl rfl 1 (by decide) f21 (fun _ h9 => h9) rfl dX3_fired_25 ?_
    refine va_get (D := D) (ci := 0) (v := .ref (ad 18)) (C := RX0) (T := TX0) (N := 10) hx hb hts hiX0 hown hK hP 2 rfl rfl 9 (by decide) f82 (fun _ h9 => h9) rfl dX3_fired_28 ?_
    refine lv_iload_n hx hb dX3_fired_31 rfl (lv_at hl 1 rfl) ?_
    obtain ⟨hi32, hf⟩ := pr_in hf
    refine va_iald hx hb hK hP 18 14 rfl rfl hi32 dX3_fired_32 ?_
    obtain rfl := Option.some.inj hf
    subst hZ
    exact px_ri hx hb hr hlocks rfl rfl hK hP hD hS (Nat.le_of_ble_eq_true rfl) (Nat.le_of_ble_eq_true rfl) dX3_fired_33
  · have hf := pr_t hf hc
    obtain rfl := Option.some.inj hf
    subst hZ
    exact px_throw (cls := "java/lang/IndexOutOfBoundsException") (text := "there is no such transition") hx hb hst hown kc51 ki51 hat55 (by decide +kernel) (by decide +kernel) (by decide +kernel) (by decide +kernel) (by decide +kernel) hT hS hK hP hD (hl.1.trans hml.symm) dX3_fired_14 dX3_fired_17 dX3_fired_18 dX3_fired_20 dX3_fired_23 hex (Nat.le_of_ble_eq_true rfl) (Nat.le_of_ble_eq_true rfl) (Nat.le_of_ble_eq_true rfl) (Nat.le_of_ble_eq_true rfl) hlocks rfl (Nat.le_of_ble_eq_true rfl) (Nat.le_of_ble_eq_true rfl)
abbrev rmX3_ignored : Room := { frames := 0, cells := 0, slots := 0, locals := 0 }
set_option maxHeartbeats 4000000 in
set_option maxRecDepth 100000 in
theorem c_X3_ignored {l : Launch} {D : va_G} {ad : Nat → Nat} {ca : Nat → ClassId} (c_states c_transitions : Int32) (c_timerEvent c_from c_event c_next c_variable c_relation c_number c_actions c_kind c_a c_b : Nat → Int32) (c_present : Int32) (c_now : Int64) (c_emits c_kept c_ignores : Int32) (c_values : Nat → Int32) (c_due : Nat → Int64) (c_outputs c_fired : Nat → Int32) (c_made c_classes c_size c_taken : Int32) (c_stateClass c_finerClass c_usedBits c_offsets c_owners : Nat → Int32) {o : Int32} (hf : X3_ignored c_ignores = some o) : Ci l yX3_ignored wsX3_ignored rmX3_ignored D (CT ca) (CW ad ca c_states c_transitions c_timerEvent c_from c_event c_next c_variable c_relation c_number c_actions c_kind c_a c_b c_present c_now c_emits c_kept c_ignores c_values c_due c_outputs c_fired c_made c_classes c_size c_taken c_stateClass c_finerClass c_usedBits c_offsets c_owners) [.ref (ad 0)] o (CW ad ca c_states c_transitions c_timerEvent c_from c_event c_next c_variable c_relation c_number c_actions c_kind c_a c_b c_present c_now c_emits c_kept c_ignores c_values c_due c_outputs c_fired c_made c_classes c_size c_taken c_stateClass c_finerClass c_usedBits c_offsets c_owners) := by
  intro sz
  refine pw_entry (Qc := fun A => pw_Qi D (CT ca) (CW ad ca c_states c_transitions c_timerEvent c_from c_event c_next c_variable c_relation c_number c_actions c_kind c_a c_b c_present c_now c_emits c_kept c_ignores c_values c_due c_outputs c_fired c_made c_classes c_size c_taken c_stateClass c_finerClass c_usedBits c_offsets c_owners) A o) (cc := cX3_ignored) (maxL := 1) (ret := (some .int)) (by decide) rfl (Nat.le_of_ble_eq_true rfl) ?_ sz
  intro p e s m args below meth c A ls Z H locs hx hb hr hlocks hts hown hml hnm hK hP hD hS hA hl hZ
  have hown : s.vm.findClass RX3 = some m.cls := hown
  have hiX0 : ∀ w ∈ u_ws RX0 TX0 10, w ∈ wsX3_ignored := by decide +kernel
  have hiX3 : ∀ w ∈ u_ws RX3 TX3 3, w ∈ wsX3_ignored := by decide +kernel
  have f151 := hts (.fieldLink RX3 151 "ProtocolMachine$Execution" "ignores" "I") (by decide +kernel)
  have f21 := hts (.fieldLink RX3 21 "ProtocolMachine" "execution" "LProtocolMachine$Execution;") (by decide +kernel)
  have hl : lv_has ls 1 [(0, .ref (ad 0))] := hl
  unfold X3_ignored at hf
  refine lv_aload_n hx hb dX3_ignored_0 rfl (lv_at hl 0 rfl) ?_
  refine va_get (D := D) (ci := 3) (v := .ref (ad 2)) (C := RX3) (T := TX3) (N := 3) hx hb hts hiX3 hown hK hP 0 rfl rfl 1 (by decide) f21 (fun _ h9 => h9) rfl dX3_ignored_1 ?_
  refine va_get (D := D) (ci := 0) (v := .int c_ignores) (C := RX0) (T := TX0) (N := 10) hx hb hts hiX0 hown hK hP 2 rfl rfl 5 (by decide) f151 (fun _ h9 => h9) rfl dX3_ignored_4 ?_
  obtain rfl := Option.some.inj hf
  subst hZ
  exact pw_ri hx hb hr hlocks hK hP hD hS (Nat.le_of_ble_eq_true rfl) (Nat.le_of_ble_eq_true rfl) dX3_ignored_7
abbrev rmX3_compile : Room := { frames := 6, cells := 0, slots := 0, locals := 143 }
set_option maxHeartbeats 4000000 in
set_option maxRecDepth 100000 in
theorem c_X3_compile {l : Launch} {D : va_G} {ad : Nat → Nat} {ca : Nat → ClassId} (fu : Nat) (c_states c_transitions : Int32) (c_timerEvent c_from c_event c_next c_variable c_relation c_number c_actions c_kind c_a c_b : Nat → Int32) (c_present : Int32) (c_now : Int64) (c_emits c_kept c_ignores : Int32) (c_values : Nat → Int32) (c_due : Nat → Int64) (c_outputs c_fired : Nat → Int32) (c_made c_classes c_size c_taken : Int32) (c_stateClass c_finerClass c_usedBits c_offsets c_owners : Nat → Int32) {o : Int32 × Int32 × Int32 × Int32 × Int32 × (Nat → Int32) × (Nat → Int32) × (Nat → Int32) × (Nat → Int32) × (Nat → Int32)} (hf : X3_compile fu c_states c_transitions c_from c_event c_next c_variable c_relation c_number c_actions c_kind c_a c_b c_made c_classes c_size c_taken c_stateClass c_finerClass c_usedBits c_offsets c_owners = some o) : Ci l yX3_compile wsX3_compile rmX3_compile D (CT ca) (CW ad ca c_states c_transitions c_timerEvent c_from c_event c_next c_variable c_relation c_number c_actions c_kind c_a c_b c_present c_now c_emits c_kept c_ignores c_values c_due c_outputs c_fired c_made c_classes c_size c_taken c_stateClass c_finerClass c_usedBits c_offsets c_owners) [.ref (ad 0)] o.1 (CW ad ca c_states c_transitions c_timerEvent c_from c_event c_next c_variable c_relation c_number c_actions c_kind c_a c_b c_present c_now c_emits c_kept c_ignores c_values c_due c_outputs c_fired o.2.1 o.2.2.1 o.2.2.2.1 o.2.2.2.2.1 o.2.2.2.2.2.1 o.2.2.2.2.2.2.1 o.2.2.2.2.2.2.2.1 o.2.2.2.2.2.2.2.2.1 o.2.2.2.2.2.2.2.2.2) := by
  intro sz
  refine pw_entry (Qc := fun A => pw_Qi D (CT ca) (CW ad ca c_states c_transitions c_timerEvent c_from c_event c_next c_variable c_relation c_number c_actions c_kind c_a c_b c_present c_now c_emits c_kept c_ignores c_values c_due c_outputs c_fired o.2.1 o.2.2.1 o.2.2.2.1 o.2.2.2.2.1 o.2.2.2.2.2.1 o.2.2.2.2.2.2.1 o.2.2.2.2.2.2.2.1 o.2.2.2.2.2.2.2.2.1 o.2.2.2.2.2.2.2.2.2) A o.1) (cc := cX3_compile) (maxL := 1) (ret := (some .int)) (by decide) rfl (Nat.le_of_ble_eq_true rfl) ?_ sz
  intro p e s m args below meth c A ls Z H locs hx hb hr hlocks hts hown hml hnm hK hP hD hS hA hl hZ
  have hown : s.vm.findClass RX3 = some m.cls := hown
  have hiX2 : ∀ w ∈ u_ws RX2 TX2 10, w ∈ wsX3_compile := by decide +kernel
  have hiX3 : ∀ w ∈ u_ws RX3 TX3 3, w ∈ wsX3_compile := by decide +kernel
  have f157 := hts (.fieldLink RX3 157 "ProtocolMachine$Table" "classes" "I") (by decide +kernel)
  have f28 := hts (.fieldLink RX3 28 "ProtocolMachine" "table" "LProtocolMachine$Table;") (by decide +kernel)
  have f43 := hts (.fieldLink RX3 43 "ProtocolMachine$Table" "made" "Z") (by decide +kernel)
  have hl : lv_has ls 1 [(0, .ref (ad 0))] := hl
  unfold X3_compile at hf
  refine lv_aload_n hx hb dX3_compile_0 rfl (lv_at hl 0 rfl) ?_
  refine va_get (D := D) (ci := 3) (v := .ref (ad 3)) (C := RX3) (T := TX3) (N := 3) hx hb hts hiX3 hown hK hP 0 rfl rfl 2 (by decide) f28 (fun _ h9 => h9) rfl dX3_compile_1 ?_
  refine va_get (D := D) (ci := 2) (v := .int c_made) (C := RX2) (T := TX2) (N := 10) hx hb hts hiX2 hown hK hP 3 rfl rfl 1 (by decide) f43 (fun _ h9 => h9) rfl dX3_compile_4 ?_
  refine lv_if_ne (tgt := 17) hx hb dX3_compile_7 (by decide) (fun hc => ?_) (fun hc => ?_)
  · have hf := pr_f hf hc
    refine lv_aload_n hx hb dX3_compile_17 rfl (lv_at hl 0 rfl) ?_
    refine va_get (D := D) (ci := 3) (v := .ref (ad 3)) (C := RX3) (T := TX3) (N := 3) hx hb hts hiX3 hown hK hP 0 rfl rfl 2 (by decide) f28 (fun _ h9 => h9) rfl dX3_compile_18 ?_
    refine va_get (D := D) (ci := 2) (v := .int c_classes) (C := RX2) (T := TX2) (N := 10) hx hb hts hiX2 hown hK hP 3 rfl rfl 2 (by decide) f157 (fun _ h9 => h9) rfl dX3_compile_21 ?_
    obtain rfl := Option.some.inj hf
    subst hZ
    exact pw_ri hx hb hr hlocks hK hP hD hS (Nat.le_of_ble_eq_true rfl) (Nat.le_of_ble_eq_true rfl) dX3_compile_24
  · have hf := pr_t hf hc
    refine lv_aload_n hx hb dX3_compile_10 rfl (lv_at hl 0 rfl) ?_
    refine va_get (D := D) (ci := 3) (v := .ref (ad 3)) (C := RX3) (T := TX3) (N := 3) hx hb hts hiX3 hown hK hP 0 rfl rfl 2 (by decide) f28 (fun _ h9 => h9) rfl dX3_compile_11 ?_
    obtain ⟨x14, hg14, hf⟩ := pr_b hf
    refine pw_cVvW (b := ad 3) (As := []) (rest := []) ⟨hx, hb, hml, hown, hts⟩ (c_X2_make fu (D := D) c_states c_transitions c_timerEvent c_from c_event c_next c_variable c_relation c_number c_actions c_kind c_a c_b c_present c_now c_emits c_kept c_ignores c_values c_due c_outputs c_fired c_made c_classes c_size c_taken c_stateClass c_finerClass c_usedBits c_offsets c_owners  hg14) (cwV 0 hts gX3_compile_X2_make rfl rfl rfl (by decide +kernel) ⟨Nat.le_of_ble_eq_true rfl, Nat.le_of_ble_eq_true rfl⟩) 3 2 rfl rfl hK hP hD hS hA rfl hl.1 rfl (Nat.le_of_ble_eq_true rfl) dX3_compile_14 ⟨Nat.le_of_ble_eq_true rfl, Nat.le_of_ble_eq_true rfl⟩ (fun H locs hP hD hS => ?_)
    have hP : va_P D vwCl (CW ad ca c_states c_transitions c_timerEvent c_from c_event c_next c_variable c_relation c_number c_actions c_kind c_a c_b c_present c_now c_emits c_kept c_ignores c_values c_due c_outputs c_fired x14.1 x14.2.1 x14.2.2.1 x14.2.2.2.1 x14.2.2.2.2.1 x14.2.2.2.2.2.1 x14.2.2.2.2.2.2.1 x14.2.2.2.2.2.2.2.1 x14.2.2.2.2.2.2.2.2) H := hP
    have hD : va_D A (CW ad ca c_states c_transitions c_timerEvent c_from c_event c_next c_variable c_relation c_number c_actions c_kind c_a c_b c_present c_now c_emits c_kept c_ignores c_values c_due c_outputs c_fired x14.1 x14.2.1 x14.2.2.1 x14.2.2.2.1 x14.2.2.2.2.1 x14.2.2.2.2.2.1 x14.2.2.2.2.2.2.1 x14.2.2.2.2.2.2.2.1 x14.2.2.2.2.2.2.2.2) := hD
    refine lv_aload_n hx hb dX3_compile_17 rfl (lv_at hl 0 rfl) ?_
    refine va_get (D := D) (ci := 3) (v := .ref (ad 3)) (C := RX3) (T := TX3) (N := 3) hx hb hts hiX3 hown hK hP 0 rfl rfl 2 (by decide) f28 (fun _ h9 => h9) rfl dX3_compile_18 ?_
    refine va_get (D := D) (ci := 2) (v := .int x14.2.1) (C := RX2) (T := TX2) (N := 10) hx hb hts hiX2 hown hK hP 3 rfl rfl 2 (by decide) f157 (fun _ h9 => h9) rfl dX3_compile_21 ?_
    obtain rfl := Option.some.inj hf
    subst hZ
    exact pw_ri hx hb hr hlocks hK hP hD hS (Nat.le_of_ble_eq_true rfl) (Nat.le_of_ble_eq_true rfl) dX3_compile_24
abbrev rmX3_isCompiled : Room := { frames := 0, cells := 0, slots := 0, locals := 0 }
set_option maxHeartbeats 4000000 in
set_option maxRecDepth 100000 in
theorem c_X3_isCompiled {l : Launch} {D : va_G} {ad : Nat → Nat} {ca : Nat → ClassId} (c_states c_transitions : Int32) (c_timerEvent c_from c_event c_next c_variable c_relation c_number c_actions c_kind c_a c_b : Nat → Int32) (c_present : Int32) (c_now : Int64) (c_emits c_kept c_ignores : Int32) (c_values : Nat → Int32) (c_due : Nat → Int64) (c_outputs c_fired : Nat → Int32) (c_made c_classes c_size c_taken : Int32) (c_stateClass c_finerClass c_usedBits c_offsets c_owners : Nat → Int32) {o : Int32} (hf : X3_isCompiled c_made = some o) : Ci l yX3_isCompiled wsX3_isCompiled rmX3_isCompiled D (CT ca) (CW ad ca c_states c_transitions c_timerEvent c_from c_event c_next c_variable c_relation c_number c_actions c_kind c_a c_b c_present c_now c_emits c_kept c_ignores c_values c_due c_outputs c_fired c_made c_classes c_size c_taken c_stateClass c_finerClass c_usedBits c_offsets c_owners) [.ref (ad 0)] o (CW ad ca c_states c_transitions c_timerEvent c_from c_event c_next c_variable c_relation c_number c_actions c_kind c_a c_b c_present c_now c_emits c_kept c_ignores c_values c_due c_outputs c_fired c_made c_classes c_size c_taken c_stateClass c_finerClass c_usedBits c_offsets c_owners) := by
  intro sz
  refine pw_entry (Qc := fun A => pw_Qi D (CT ca) (CW ad ca c_states c_transitions c_timerEvent c_from c_event c_next c_variable c_relation c_number c_actions c_kind c_a c_b c_present c_now c_emits c_kept c_ignores c_values c_due c_outputs c_fired c_made c_classes c_size c_taken c_stateClass c_finerClass c_usedBits c_offsets c_owners) A o) (cc := cX3_isCompiled) (maxL := 1) (ret := (some .boolean)) (by decide) rfl (Nat.le_of_ble_eq_true rfl) ?_ sz
  intro p e s m args below meth c A ls Z H locs hx hb hr hlocks hts hown hml hnm hK hP hD hS hA hl hZ
  have hown : s.vm.findClass RX3 = some m.cls := hown
  have hiX2 : ∀ w ∈ u_ws RX2 TX2 10, w ∈ wsX3_isCompiled := by decide +kernel
  have hiX3 : ∀ w ∈ u_ws RX3 TX3 3, w ∈ wsX3_isCompiled := by decide +kernel
  have f28 := hts (.fieldLink RX3 28 "ProtocolMachine" "table" "LProtocolMachine$Table;") (by decide +kernel)
  have f43 := hts (.fieldLink RX3 43 "ProtocolMachine$Table" "made" "Z") (by decide +kernel)
  have hl : lv_has ls 1 [(0, .ref (ad 0))] := hl
  unfold X3_isCompiled at hf
  refine lv_aload_n hx hb dX3_isCompiled_0 rfl (lv_at hl 0 rfl) ?_
  refine va_get (D := D) (ci := 3) (v := .ref (ad 3)) (C := RX3) (T := TX3) (N := 3) hx hb hts hiX3 hown hK hP 0 rfl rfl 2 (by decide) f28 (fun _ h9 => h9) rfl dX3_isCompiled_1 ?_
  refine va_get (D := D) (ci := 2) (v := .int c_made) (C := RX2) (T := TX2) (N := 10) hx hb hts hiX2 hown hK hP 3 rfl rfl 1 (by decide) f43 (fun _ h9 => h9) rfl dX3_isCompiled_4 ?_
  obtain ⟨hn, hf⟩ := pr_nz hf
  obtain rfl := Option.some.inj hf
  subst hZ
  exact pw_rz hx hb hr hlocks hn hK hP hD hS (Nat.le_of_ble_eq_true rfl) (Nat.le_of_ble_eq_true rfl) dX3_isCompiled_7
abbrev rmX3_needTable : Room := { frames := 6, cells := 1, slots := 6, locals := 90 }
set_option maxHeartbeats 4000000 in
set_option maxRecDepth 100000 in
theorem c_X3_needTable {l : Launch} {D : va_G} {ad : Nat → Nat} {ca : Nat → ClassId} (hst : l.stackTraces = false) (c_states c_transitions : Int32) (c_timerEvent c_from c_event c_next c_variable c_relation c_number c_actions c_kind c_a c_b : Nat → Int32) (c_present : Int32) (c_now : Int64) (c_emits c_kept c_ignores : Int32) (c_values : Nat → Int32) (c_due : Nat → Int64) (c_outputs c_fired : Nat → Int32) (c_made c_classes c_size c_taken : Int32) (c_stateClass c_finerClass c_usedBits c_offsets c_owners : Nat → Int32) {o : String ⊕ (Unit)} (hf : X3_needTable c_made = some o) : Xv l yX3_needTable wsX3_needTable rmX3_needTable D (CT ca) (CW ad ca c_states c_transitions c_timerEvent c_from c_event c_next c_variable c_relation c_number c_actions c_kind c_a c_b c_present c_now c_emits c_kept c_ignores c_values c_due c_outputs c_fired c_made c_classes c_size c_taken c_stateClass c_finerClass c_usedBits c_offsets c_owners) [.ref (ad 0)] o (fun (u : Unit) => (CW ad ca c_states c_transitions c_timerEvent c_from c_event c_next c_variable c_relation c_number c_actions c_kind c_a c_b c_present c_now c_emits c_kept c_ignores c_values c_due c_outputs c_fired c_made c_classes c_size c_taken c_stateClass c_finerClass c_usedBits c_offsets c_owners)) := by
  intro sz
  refine px_entry (Qc := fun A => px_Qv D (CT ca) (fun (u : Unit) => (CW ad ca c_states c_transitions c_timerEvent c_from c_event c_next c_variable c_relation c_number c_actions c_kind c_a c_b c_present c_now c_emits c_kept c_ignores c_values c_due c_outputs c_fired c_made c_classes c_size c_taken c_stateClass c_finerClass c_usedBits c_offsets c_owners)) A o) (XC := fun A => px_X D (CT ca) (CW ad ca c_states c_transitions c_timerEvent c_from c_event c_next c_variable c_relation c_number c_actions c_kind c_a c_b c_present c_now c_emits c_kept c_ignores c_values c_due c_outputs c_fired c_made c_classes c_size c_taken c_stateClass c_finerClass c_usedBits c_offsets c_owners) A o) (cc := cX3_needTable) (maxL := 1) (ret := none) (by decide) rfl (Nat.le_of_ble_eq_true rfl) ?_ sz
  intro p e s m args below meth c A ls Z H locs hx hb hr hlocks hts hown hml hnm hK hP hD hS hA hl hT hex hZ
  have hown : s.vm.findClass RX3 = some m.cls := hown
  have hiX2 : ∀ w ∈ u_ws RX2 TX2 10, w ∈ wsX3_needTable := by decide +kernel
  have hiX3 : ∀ w ∈ u_ws RX3 TX3 3, w ∈ wsX3_needTable := by decide +kernel
  have f28 := hts (.fieldLink RX3 28 "ProtocolMachine" "table" "LProtocolMachine$Table;") (by decide +kernel)
  have f43 := hts (.fieldLink RX3 43 "ProtocolMachine$Table" "made" "Z") (by decide +kernel)
  have kc36 := hts (.classLink RX3 36 "java/lang/IllegalStateException") (by decide +kernel)
  have ki36 := hts (.initialized "java/lang/IllegalStateException") (by decide +kernel)
  have hat40 : ∀ w ∈ (vx_atS RX3 40 "java/lang/IllegalStateException" ["java/lang/RuntimeException", "java/lang/Exception"]).filter goodWord, w.before args s = true := fun w h => hts w (List.mem_cons_of_mem _ (List.mem_append_right _ h))
  have hl : lv_has ls 1 [(0, .ref (ad 0))] := hl
  unfold X3_needTable at hf
  refine lv_aload_n hx hb dX3_needTable_0 rfl (lv_at hl 0 rfl) ?_
  refine va_get (D := D) (ci := 3) (v := .ref (ad 3)) (C := RX3) (T := TX3) (N := 3) hx hb hts hiX3 hown hK hP 0 rfl rfl 2 (by decide) f28 (fun _ h9 => h9) rfl dX3_needTable_1 ?_
  refine va_get (D := D) (ci := 2) (v := .int c_made) (C := RX2) (T := TX2) (N := 10) hx hb hts hiX2 hown hK hP 3 rfl rfl 1 (by decide) f43 (fun _ h9 => h9) rfl dX3_needTable_4 ?_
  refine lv_if_ne (tgt := 20) hx hb dX3_needTable_7 (by decide) (fun hc => ?_) (fun hc => ?_)
  · have hf := pr_f hf hc
    obtain rfl := Option.some.inj hf
    subst hZ
    exact px_rv hx hb hr hlocks rfl hK hP hD hS (Nat.le_of_ble_eq_true rfl) (Nat.le_of_ble_eq_true rfl) dX3_needTable_20
  · have hf := pr_t hf hc
    obtain rfl := Option.some.inj hf
    subst hZ
    exact px_throw (cls := "java/lang/IllegalStateException") (text := "there is no table") hx hb hst hown kc36 ki36 hat40 (by decide +kernel) (by decide +kernel) (by decide +kernel) (by decide +kernel) (by decide +kernel) hT hS hK hP hD (hl.1.trans hml.symm) dX3_needTable_10 dX3_needTable_13 dX3_needTable_14 dX3_needTable_16 dX3_needTable_19 hex (Nat.le_of_ble_eq_true rfl) (Nat.le_of_ble_eq_true rfl) (Nat.le_of_ble_eq_true rfl) (Nat.le_of_ble_eq_true rfl) hlocks rfl (Nat.le_of_ble_eq_true rfl) (Nat.le_of_ble_eq_true rfl)
abbrev rmX3_classOf : Room := { frames := 7, cells := 2, slots := 12, locals := 110 }
set_option maxHeartbeats 4000000 in
set_option maxRecDepth 100000 in
theorem c_X3_classOf {l : Launch} {D : va_G} {ad : Nat → Nat} {ca : Nat → ClassId} (hst : l.stackTraces = false) (c_states c_transitions : Int32) (c_timerEvent c_from c_event c_next c_variable c_relation c_number c_actions c_kind c_a c_b : Nat → Int32) (c_present : Int32) (c_now : Int64) (c_emits c_kept c_ignores : Int32) (c_values : Nat → Int32) (c_due : Nat → Int64) (c_outputs c_fired : Nat → Int32) (c_made c_classes c_size c_taken : Int32) (c_stateClass c_finerClass c_usedBits c_offsets c_owners : Nat → Int32) (v1 : Int32) {o : String ⊕ (Int32)} (hf : X3_classOf c_states c_made c_stateClass v1 = some o) : Xi l yX3_classOf wsX3_classOf rmX3_classOf D (CT ca) (CW ad ca c_states c_transitions c_timerEvent c_from c_event c_next c_variable c_relation c_number c_actions c_kind c_a c_b c_present c_now c_emits c_kept c_ignores c_values c_due c_outputs c_fired c_made c_classes c_size c_taken c_stateClass c_finerClass c_usedBits c_offsets c_owners) [.ref (ad 0), .int v1] o (fun (u : Int32) => u) (fun (u : Int32) => (CW ad ca c_states c_transitions c_timerEvent c_from c_event c_next c_variable c_relation c_number c_actions c_kind c_a c_b c_present c_now c_emits c_kept c_ignores c_values c_due c_outputs c_fired c_made c_classes c_size c_taken c_stateClass c_finerClass c_usedBits c_offsets c_owners)) := by
  intro sz
  refine px_entry (Qc := fun A => px_Qi D (CT ca) (fun (u : Int32) => (CW ad ca c_states c_transitions c_timerEvent c_from c_event c_next c_variable c_relation c_number c_actions c_kind c_a c_b c_present c_now c_emits c_kept c_ignores c_values c_due c_outputs c_fired c_made c_classes c_size c_taken c_stateClass c_finerClass c_usedBits c_offsets c_owners)) A o (fun (u : Int32) => u)) (XC := fun A => px_X D (CT ca) (CW ad ca c_states c_transitions c_timerEvent c_from c_event c_next c_variable c_relation c_number c_actions c_kind c_a c_b c_present c_now c_emits c_kept c_ignores c_values c_due c_outputs c_fired c_made c_classes c_size c_taken c_stateClass c_finerClass c_usedBits c_offsets c_owners) A o) (cc := cX3_classOf) (maxL := 2) (ret := (some .int)) (by decide) rfl (Nat.le_of_ble_eq_true rfl) ?_ sz
  intro p e s m args below meth c A ls Z H locs hx hb hr hlocks hts hown hml hnm hK hP hD hS hA hl hT hex hZ
  have hown : s.vm.findClass RX3 = some m.cls := hown
  have hiX1 : ∀ w ∈ u_ws RX1 TX1 13, w ∈ wsX3_classOf := by decide +kernel
  have hiX2 : ∀ w ∈ u_ws RX2 TX2 10, w ∈ wsX3_classOf := by decide +kernel
  have hiX3 : ∀ w ∈ u_ws RX3 TX3 3, w ∈ wsX3_classOf := by decide +kernel
  have f12 := hts (.fieldLink RX3 12 "ProtocolMachine" "protocol" "LProtocolMachine$Protocol;") (by decide +kernel)
  have f163 := hts (.fieldLink RX3 163 "ProtocolMachine$Table" "stateClass" "[I") (by decide +kernel)
  have f28 := hts (.fieldLink RX3 28 "ProtocolMachine" "table" "LProtocolMachine$Table;") (by decide +kernel)
  have f32 := hts (.fieldLink RX3 32 "ProtocolMachine$Protocol" "states" "I") (by decide +kernel)
  have kc51 := hts (.classLink RX3 51 "java/lang/IndexOutOfBoundsException") (by decide +kernel)
  have ki51 := hts (.initialized "java/lang/IndexOutOfBoundsException") (by decide +kernel)
  have hat55 : ∀ w ∈ (vx_atS RX3 55 "java/lang/IndexOutOfBoundsException" ["java/lang/RuntimeException", "java/lang/Exception"]).filter goodWord, w.before args s = true := fun w h => hts w (List.mem_cons_of_mem _ (List.mem_append_left _ (List.mem_append_right _ h)))
  have hl : lv_has ls 2 [(0, .ref (ad 0)), (1, .int v1)] := hl
  unfold X3_classOf at hf
  refine lv_aload_n hx hb dX3_classOf_0 rfl (lv_at hl 0 rfl) ?_
  obtain ⟨x1, hg1, hfx, hfr⟩ := pr_x hf
  refine px_cVvW (b := ad 0) (As := []) (rest := []) ⟨hx, hb, hml, hown, hts⟩ (c_X3_needTable hst (D := D) c_states c_transitions c_timerEvent c_from c_event c_next c_variable c_relation c_number c_actions c_kind c_a c_b c_present c_now c_emits c_kept c_ignores c_values c_due c_outputs c_fired c_made c_classes c_size c_taken c_stateClass c_finerClass c_usedBits c_offsets c_owners  hg1) (cwV 0 hts gX3_classOf_X3_needTable rfl rfl rfl (by decide +kernel) ⟨Nat.le_of_ble_eq_true rfl, Nat.le_of_ble_eq_true rfl⟩) 0 3 rfl rfl hK hP hD hS hA hT rfl hl.1 rfl (Nat.le_of_ble_eq_true rfl) dX3_classOf_1 ⟨Nat.le_of_ble_eq_true rfl, Nat.le_of_ble_eq_true rfl⟩ (fun E ce q9 H locs ho hP hD hS hq1 hq2 hq3 => ?_) (fun u H locs ho hP hD hS => ?_)
  · have hf := hfx E ho
    obtain rfl := Option.some.inj hf
    subst hZ
    exact px_out hlocks hex hK hP hD hS hq1 hq2 hq3 rfl (Nat.le_of_ble_eq_true rfl) (Nat.le_of_ble_eq_true rfl)
  have hf := hfr u ho
  refine lv_iload_n hx hb dX3_classOf_4 rfl (lv_at hl 1 rfl) ?_
  refine lv_aload_n hx hb dX3_classOf_5 rfl (lv_at hl 0 rfl) ?_
  refine va_get (D := D) (ci := 3) (v := .ref (ad 1)) (C := RX3) (T := TX3) (N := 3) hx hb hts hiX3 hown hK hP 0 rfl rfl 0 (by decide) f12 (fun _ h9 => h9) rfl dX3_classOf_6 ?_
  refine va_get (D := D) (ci := 1) (v := .int c_states) (C := RX1) (T := TX1) (N := 13) hx hb hts hiX1 hown hK hP 1 rfl rfl 0 (by decide) f32 (fun _ h9 => h9) rfl dX3_classOf_9 ?_
  obtain ⟨x12, hg12, hf⟩ := pr_b hf
  refine pw_cSiE (As := [.int v1, .int c_states]) (rest := []) ⟨hx, hb, hml, hown, hts⟩ (c_X3_isBelow (D := D) (tys := (CT ca)) v1 c_states hg12) (va_cwS 2 hts gX3_classOf_X3_isBelow rfl rfl rfl (by decide +kernel) ⟨Nat.le_of_ble_eq_true rfl, Nat.le_of_ble_eq_true rfl⟩) hK hP hD hS hA rfl hl.1 rfl (Nat.le_of_ble_eq_true rfl) dX3_classOf_12 ⟨Nat.le_of_ble_eq_true rfl, Nat.le_of_ble_eq_true rfl⟩ (fun H locs hP hD hS => ?_)
  refine lv_if_ne (tgt := 28) hx hb dX3_classOf_15 (by decide) (fun hc => ?_) (fun hc => ?_)
  · have hf := pr_f hf hc
    refine lv_aload_n hx hb dX3_classOf_28 rfl (lv_at hl 0 rfl) ?_
    refine va_get (D := D) (ci := 3) (v := .ref (ad 3)) (C := RX3) (T := TX3) (N := 3) hx hb hts hiX3 hown hK hP 0 rfl rfl 2 (by decide) f28 (fun _ h9 => h9) rfl dX3_classOf_29 ?_
    refine va_get (D := D) (ci := 2) (v := .ref (ad 19)) (C := RX2) (T := TX2) (N := 10) hx hb hts hiX2 hown hK hP 3 rfl rfl 5 (by decide) f163 (fun _ h9 => h9) rfl dX3_classOf_32 ?_
    refine lv_iload_n hx hb dX3_classOf_35 rfl (lv_at hl 1 rfl) ?_
    obtain ⟨hi36, hf⟩ := pr_in hf
    refine va_iald hx hb hK hP 19 15 rfl rfl hi36 dX3_classOf_36 ?_
    obtain rfl := Option.some.inj hf
    subst hZ
    exact px_ri hx hb hr hlocks rfl rfl hK hP hD hS (Nat.le_of_ble_eq_true rfl) (Nat.le_of_ble_eq_true rfl) dX3_classOf_37
  · have hf := pr_t hf hc
    obtain rfl := Option.some.inj hf
    subst hZ
    exact px_throw (cls := "java/lang/IndexOutOfBoundsException") (text := "there is no such state") hx hb hst hown kc51 ki51 hat55 (by decide +kernel) (by decide +kernel) (by decide +kernel) (by decide +kernel) (by decide +kernel) hT hS hK hP hD (hl.1.trans hml.symm) dX3_classOf_18 dX3_classOf_21 dX3_classOf_22 dX3_classOf_24 dX3_classOf_27 hex (Nat.le_of_ble_eq_true rfl) (Nat.le_of_ble_eq_true rfl) (Nat.le_of_ble_eq_true rfl) (Nat.le_of_ble_eq_true rfl) hlocks rfl (Nat.le_of_ble_eq_true rfl) (Nat.le_of_ble_eq_true rfl)
abbrev rmX3_needClass : Room := { frames := 7, cells := 2, slots := 12, locals := 110 }
set_option maxHeartbeats 4000000 in
set_option maxRecDepth 100000 in
theorem c_X3_needClass {l : Launch} {D : va_G} {ad : Nat → Nat} {ca : Nat → ClassId} (hst : l.stackTraces = false) (c_states c_transitions : Int32) (c_timerEvent c_from c_event c_next c_variable c_relation c_number c_actions c_kind c_a c_b : Nat → Int32) (c_present : Int32) (c_now : Int64) (c_emits c_kept c_ignores : Int32) (c_values : Nat → Int32) (c_due : Nat → Int64) (c_outputs c_fired : Nat → Int32) (c_made c_classes c_size c_taken : Int32) (c_stateClass c_finerClass c_usedBits c_offsets c_owners : Nat → Int32) (v1 : Int32) {o : String ⊕ (Unit)} (hf : X3_needClass c_made c_classes v1 = some o) : Xv l yX3_needClass wsX3_needClass rmX3_needClass D (CT ca) (CW ad ca c_states c_transitions c_timerEvent c_from c_event c_next c_variable c_relation c_number c_actions c_kind c_a c_b c_present c_now c_emits c_kept c_ignores c_values c_due c_outputs c_fired c_made c_classes c_size c_taken c_stateClass c_finerClass c_usedBits c_offsets c_owners) [.ref (ad 0), .int v1] o (fun (u : Unit) => (CW ad ca c_states c_transitions c_timerEvent c_from c_event c_next c_variable c_relation c_number c_actions c_kind c_a c_b c_present c_now c_emits c_kept c_ignores c_values c_due c_outputs c_fired c_made c_classes c_size c_taken c_stateClass c_finerClass c_usedBits c_offsets c_owners)) := by
  intro sz
  refine px_entry (Qc := fun A => px_Qv D (CT ca) (fun (u : Unit) => (CW ad ca c_states c_transitions c_timerEvent c_from c_event c_next c_variable c_relation c_number c_actions c_kind c_a c_b c_present c_now c_emits c_kept c_ignores c_values c_due c_outputs c_fired c_made c_classes c_size c_taken c_stateClass c_finerClass c_usedBits c_offsets c_owners)) A o) (XC := fun A => px_X D (CT ca) (CW ad ca c_states c_transitions c_timerEvent c_from c_event c_next c_variable c_relation c_number c_actions c_kind c_a c_b c_present c_now c_emits c_kept c_ignores c_values c_due c_outputs c_fired c_made c_classes c_size c_taken c_stateClass c_finerClass c_usedBits c_offsets c_owners) A o) (cc := cX3_needClass) (maxL := 2) (ret := none) (by decide) rfl (Nat.le_of_ble_eq_true rfl) ?_ sz
  intro p e s m args below meth c A ls Z H locs hx hb hr hlocks hts hown hml hnm hK hP hD hS hA hl hT hex hZ
  have hown : s.vm.findClass RX3 = some m.cls := hown
  have hiX2 : ∀ w ∈ u_ws RX2 TX2 10, w ∈ wsX3_needClass := by decide +kernel
  have hiX3 : ∀ w ∈ u_ws RX3 TX3 3, w ∈ wsX3_needClass := by decide +kernel
  have f157 := hts (.fieldLink RX3 157 "ProtocolMachine$Table" "classes" "I") (by decide +kernel)
  have f28 := hts (.fieldLink RX3 28 "ProtocolMachine" "table" "LProtocolMachine$Table;") (by decide +kernel)
  have kc51 := hts (.classLink RX3 51 "java/lang/IndexOutOfBoundsException") (by decide +kernel)
  have ki51 := hts (.initialized "java/lang/IndexOutOfBoundsException") (by decide +kernel)
  have hat55 : ∀ w ∈ (vx_atS RX3 55 "java/lang/IndexOutOfBoundsException" ["java/lang/RuntimeException", "java/lang/Exception"]).filter goodWord, w.before args s = true := fun w h => hts w (List.mem_cons_of_mem _ (List.mem_append_left _ (List.mem_append_right _ h)))
  have hl : lv_has ls 2 [(0, .ref (ad 0)), (1, .int v1)] := hl
  unfold X3_needClass at hf
  refine lv_aload_n hx hb dX3_needClass_0 rfl (lv_at hl 0 rfl) ?_
  obtain ⟨x1, hg1, hfx, hfr⟩ := pr_x hf
  refine px_cVvW (b := ad 0) (As := []) (rest := []) ⟨hx, hb, hml, hown, hts⟩ (c_X3_needTable hst (D := D) c_states c_transitions c_timerEvent c_from c_event c_next c_variable c_relation c_number c_actions c_kind c_a c_b c_present c_now c_emits c_kept c_ignores c_values c_due c_outputs c_fired c_made c_classes c_size c_taken c_stateClass c_finerClass c_usedBits c_offsets c_owners  hg1) (cwV 0 hts gX3_needClass_X3_needTable rfl rfl rfl (by decide +kernel) ⟨Nat.le_of_ble_eq_true rfl, Nat.le_of_ble_eq_true rfl⟩) 0 3 rfl rfl hK hP hD hS hA hT rfl hl.1 rfl (Nat.le_of_ble_eq_true rfl) dX3_needClass_1 ⟨Nat.le_of_ble_eq_true rfl, Nat.le_of_ble_eq_true rfl⟩ (fun E ce q9 H locs ho hP hD hS hq1 hq2 hq3 => ?_) (fun u H locs ho hP hD hS => ?_)
  · have hf := hfx E ho
    obtain rfl := Option.some.inj hf
    subst hZ
    exact px_out hlocks hex hK hP hD hS hq1 hq2 hq3 rfl (Nat.le_of_ble_eq_true rfl) (Nat.le_of_ble_eq_true rfl)
  have hf := hfr u ho
  refine lv_iload_n hx hb dX3_needClass_4 rfl (lv_at hl 1 rfl) ?_
  refine lv_aload_n hx hb dX3_needClass_5 rfl (lv_at hl 0 rfl) ?_
  refine va_get (D := D) (ci := 3) (v := .ref (ad 3)) (C := RX3) (T := TX3) (N := 3) hx hb hts hiX3 hown hK hP 0 rfl rfl 2 (by decide) f28 (fun _ h9 => h9) rfl dX3_needClass_6 ?_
  refine va_get (D := D) (ci := 2) (v := .int c_classes) (C := RX2) (T := TX2) (N := 10) hx hb hts hiX2 hown hK hP 3 rfl rfl 2 (by decide) f157 (fun _ h9 => h9) rfl dX3_needClass_9 ?_
  obtain ⟨x12, hg12, hf⟩ := pr_b hf
  refine pw_cSiE (As := [.int v1, .int c_classes]) (rest := []) ⟨hx, hb, hml, hown, hts⟩ (c_X3_isBelow (D := D) (tys := (CT ca)) v1 c_classes hg12) (va_cwS 2 hts gX3_needClass_X3_isBelow rfl rfl rfl (by decide +kernel) ⟨Nat.le_of_ble_eq_true rfl, Nat.le_of_ble_eq_true rfl⟩) hK hP hD hS hA rfl hl.1 rfl (Nat.le_of_ble_eq_true rfl) dX3_needClass_12 ⟨Nat.le_of_ble_eq_true rfl, Nat.le_of_ble_eq_true rfl⟩ (fun H locs hP hD hS => ?_)
  refine lv_if_ne (tgt := 28) hx hb dX3_needClass_15 (by decide) (fun hc => ?_) (fun hc => ?_)
  · have hf := pr_f hf hc
    obtain rfl := Option.some.inj hf
    subst hZ
    exact px_rv hx hb hr hlocks rfl hK hP hD hS (Nat.le_of_ble_eq_true rfl) (Nat.le_of_ble_eq_true rfl) dX3_needClass_28
  · have hf := pr_t hf hc
    obtain rfl := Option.some.inj hf
    subst hZ
    exact px_throw (cls := "java/lang/IndexOutOfBoundsException") (text := "there is no such class") hx hb hst hown kc51 ki51 hat55 (by decide +kernel) (by decide +kernel) (by decide +kernel) (by decide +kernel) (by decide +kernel) hT hS hK hP hD (hl.1.trans hml.symm) dX3_needClass_18 dX3_needClass_21 dX3_needClass_22 dX3_needClass_24 dX3_needClass_27 hex (Nat.le_of_ble_eq_true rfl) (Nat.le_of_ble_eq_true rfl) (Nat.le_of_ble_eq_true rfl) (Nat.le_of_ble_eq_true rfl) hlocks rfl (Nat.le_of_ble_eq_true rfl) (Nat.le_of_ble_eq_true rfl)
abbrev rmX3_offset : Room := { frames := 8, cells := 2, slots := 12, locals := 131 }
set_option maxHeartbeats 4000000 in
set_option maxRecDepth 100000 in
theorem c_X3_offset {l : Launch} {D : va_G} {ad : Nat → Nat} {ca : Nat → ClassId} (hst : l.stackTraces = false) (c_states c_transitions : Int32) (c_timerEvent c_from c_event c_next c_variable c_relation c_number c_actions c_kind c_a c_b : Nat → Int32) (c_present : Int32) (c_now : Int64) (c_emits c_kept c_ignores : Int32) (c_values : Nat → Int32) (c_due : Nat → Int64) (c_outputs c_fired : Nat → Int32) (c_made c_classes c_size c_taken : Int32) (c_stateClass c_finerClass c_usedBits c_offsets c_owners : Nat → Int32) (v1 : Int32) {o : String ⊕ (Int32)} (hf : X3_offset c_made c_classes c_offsets v1 = some o) : Xi l yX3_offset wsX3_offset rmX3_offset D (CT ca) (CW ad ca c_states c_transitions c_timerEvent c_from c_event c_next c_variable c_relation c_number c_actions c_kind c_a c_b c_present c_now c_emits c_kept c_ignores c_values c_due c_outputs c_fired c_made c_classes c_size c_taken c_stateClass c_finerClass c_usedBits c_offsets c_owners) [.ref (ad 0), .int v1] o (fun (u : Int32) => u) (fun (u : Int32) => (CW ad ca c_states c_transitions c_timerEvent c_from c_event c_next c_variable c_relation c_number c_actions c_kind c_a c_b c_present c_now c_emits c_kept c_ignores c_values c_due c_outputs c_fired c_made c_classes c_size c_taken c_stateClass c_finerClass c_usedBits c_offsets c_owners)) := by
  intro sz
  refine px_entry (Qc := fun A => px_Qi D (CT ca) (fun (u : Int32) => (CW ad ca c_states c_transitions c_timerEvent c_from c_event c_next c_variable c_relation c_number c_actions c_kind c_a c_b c_present c_now c_emits c_kept c_ignores c_values c_due c_outputs c_fired c_made c_classes c_size c_taken c_stateClass c_finerClass c_usedBits c_offsets c_owners)) A o (fun (u : Int32) => u)) (XC := fun A => px_X D (CT ca) (CW ad ca c_states c_transitions c_timerEvent c_from c_event c_next c_variable c_relation c_number c_actions c_kind c_a c_b c_present c_now c_emits c_kept c_ignores c_values c_due c_outputs c_fired c_made c_classes c_size c_taken c_stateClass c_finerClass c_usedBits c_offsets c_owners) A o) (cc := cX3_offset) (maxL := 2) (ret := (some .int)) (by decide) rfl (Nat.le_of_ble_eq_true rfl) ?_ sz
  intro p e s m args below meth c A ls Z H locs hx hb hr hlocks hts hown hml hnm hK hP hD hS hA hl hT hex hZ
  have hown : s.vm.findClass RX3 = some m.cls := hown
  have hiX2 : ∀ w ∈ u_ws RX2 TX2 10, w ∈ wsX3_offset := by decide +kernel
  have hiX3 : ∀ w ∈ u_ws RX3 TX3 3, w ∈ wsX3_offset := by decide +kernel
  have f170 := hts (.fieldLink RX3 170 "ProtocolMachine$Table" "offsets" "[I") (by decide +kernel)
  have f28 := hts (.fieldLink RX3 28 "ProtocolMachine" "table" "LProtocolMachine$Table;") (by decide +kernel)
  have hl : lv_has ls 2 [(0, .ref (ad 0)), (1, .int v1)] := hl
  unfold X3_offset at hf
  refine lv_aload_n hx hb dX3_offset_0 rfl (lv_at hl 0 rfl) ?_
  refine lv_iload_n hx hb dX3_offset_1 rfl (lv_at hl 1 rfl) ?_
  obtain ⟨x2, hg2, hfx, hfr⟩ := pr_x hf
  refine px_cVvW (b := ad 0) (As := [.int v1]) (rest := []) ⟨hx, hb, hml, hown, hts⟩ (c_X3_needClass hst (D := D) c_states c_transitions c_timerEvent c_from c_event c_next c_variable c_relation c_number c_actions c_kind c_a c_b c_present c_now c_emits c_kept c_ignores c_values c_due c_outputs c_fired c_made c_classes c_size c_taken c_stateClass c_finerClass c_usedBits c_offsets c_owners v1 hg2) (cwV 1 hts gX3_offset_X3_needClass rfl rfl rfl (by decide +kernel) ⟨Nat.le_of_ble_eq_true rfl, Nat.le_of_ble_eq_true rfl⟩) 0 3 rfl rfl hK hP hD hS hA hT rfl hl.1 rfl (Nat.le_of_ble_eq_true rfl) dX3_offset_2 ⟨Nat.le_of_ble_eq_true rfl, Nat.le_of_ble_eq_true rfl⟩ (fun E ce q9 H locs ho hP hD hS hq1 hq2 hq3 => ?_) (fun u H locs ho hP hD hS => ?_)
  · have hf := hfx E ho
    obtain rfl := Option.some.inj hf
    subst hZ
    exact px_out hlocks hex hK hP hD hS hq1 hq2 hq3 rfl (Nat.le_of_ble_eq_true rfl) (Nat.le_of_ble_eq_true rfl)
  have hf := hfr u ho
  refine lv_aload_n hx hb dX3_offset_5 rfl (lv_at hl 0 rfl) ?_
  refine va_get (D := D) (ci := 3) (v := .ref (ad 3)) (C := RX3) (T := TX3) (N := 3) hx hb hts hiX3 hown hK hP 0 rfl rfl 2 (by decide) f28 (fun _ h9 => h9) rfl dX3_offset_6 ?_
  refine va_get (D := D) (ci := 2) (v := .ref (ad 22)) (C := RX2) (T := TX2) (N := 10) hx hb hts hiX2 hown hK hP 3 rfl rfl 8 (by decide) f170 (fun _ h9 => h9) rfl dX3_offset_9 ?_
  refine lv_iload_n hx hb dX3_offset_12 rfl (lv_at hl 1 rfl) ?_
  obtain ⟨hi13, hf⟩ := pr_in hf
  refine va_iald hx hb hK hP 22 18 rfl rfl hi13 dX3_offset_13 ?_
  obtain rfl := Option.some.inj hf
  subst hZ
  exact px_ri hx hb hr hlocks rfl rfl hK hP hD hS (Nat.le_of_ble_eq_true rfl) (Nat.le_of_ble_eq_true rfl) dX3_offset_14
abbrev rmX3_used : Room := { frames := 8, cells := 2, slots := 12, locals := 131 }
set_option maxHeartbeats 4000000 in
set_option maxRecDepth 100000 in
theorem c_X3_used {l : Launch} {D : va_G} {ad : Nat → Nat} {ca : Nat → ClassId} (hst : l.stackTraces = false) (c_states c_transitions : Int32) (c_timerEvent c_from c_event c_next c_variable c_relation c_number c_actions c_kind c_a c_b : Nat → Int32) (c_present : Int32) (c_now : Int64) (c_emits c_kept c_ignores : Int32) (c_values : Nat → Int32) (c_due : Nat → Int64) (c_outputs c_fired : Nat → Int32) (c_made c_classes c_size c_taken : Int32) (c_stateClass c_finerClass c_usedBits c_offsets c_owners : Nat → Int32) (v1 : Int32) {o : String ⊕ (Int32)} (hf : X3_used c_made c_classes c_usedBits v1 = some o) : Xi l yX3_used wsX3_used rmX3_used D (CT ca) (CW ad ca c_states c_transitions c_timerEvent c_from c_event c_next c_variable c_relation c_number c_actions c_kind c_a c_b c_present c_now c_emits c_kept c_ignores c_values c_due c_outputs c_fired c_made c_classes c_size c_taken c_stateClass c_finerClass c_usedBits c_offsets c_owners) [.ref (ad 0), .int v1] o (fun (u : Int32) => u) (fun (u : Int32) => (CW ad ca c_states c_transitions c_timerEvent c_from c_event c_next c_variable c_relation c_number c_actions c_kind c_a c_b c_present c_now c_emits c_kept c_ignores c_values c_due c_outputs c_fired c_made c_classes c_size c_taken c_stateClass c_finerClass c_usedBits c_offsets c_owners)) := by
  intro sz
  refine px_entry (Qc := fun A => px_Qi D (CT ca) (fun (u : Int32) => (CW ad ca c_states c_transitions c_timerEvent c_from c_event c_next c_variable c_relation c_number c_actions c_kind c_a c_b c_present c_now c_emits c_kept c_ignores c_values c_due c_outputs c_fired c_made c_classes c_size c_taken c_stateClass c_finerClass c_usedBits c_offsets c_owners)) A o (fun (u : Int32) => u)) (XC := fun A => px_X D (CT ca) (CW ad ca c_states c_transitions c_timerEvent c_from c_event c_next c_variable c_relation c_number c_actions c_kind c_a c_b c_present c_now c_emits c_kept c_ignores c_values c_due c_outputs c_fired c_made c_classes c_size c_taken c_stateClass c_finerClass c_usedBits c_offsets c_owners) A o) (cc := cX3_used) (maxL := 2) (ret := (some .int)) (by decide) rfl (Nat.le_of_ble_eq_true rfl) ?_ sz
  intro p e s m args below meth c A ls Z H locs hx hb hr hlocks hts hown hml hnm hK hP hD hS hA hl hT hex hZ
  have hown : s.vm.findClass RX3 = some m.cls := hown
  have hiX3 : ∀ w ∈ u_ws RX3 TX3 3, w ∈ wsX3_used := by decide +kernel
  have f28 := hts (.fieldLink RX3 28 "ProtocolMachine" "table" "LProtocolMachine$Table;") (by decide +kernel)
  have hl : lv_has ls 2 [(0, .ref (ad 0)), (1, .int v1)] := hl
  unfold X3_used at hf
  refine lv_aload_n hx hb dX3_used_0 rfl (lv_at hl 0 rfl) ?_
  refine lv_iload_n hx hb dX3_used_1 rfl (lv_at hl 1 rfl) ?_
  obtain ⟨x2, hg2, hfx, hfr⟩ := pr_x hf
  refine px_cVvW (b := ad 0) (As := [.int v1]) (rest := []) ⟨hx, hb, hml, hown, hts⟩ (c_X3_needClass hst (D := D) c_states c_transitions c_timerEvent c_from c_event c_next c_variable c_relation c_number c_actions c_kind c_a c_b c_present c_now c_emits c_kept c_ignores c_values c_due c_outputs c_fired c_made c_classes c_size c_taken c_stateClass c_finerClass c_usedBits c_offsets c_owners v1 hg2) (cwV 1 hts gX3_used_X3_needClass rfl rfl rfl (by decide +kernel) ⟨Nat.le_of_ble_eq_true rfl, Nat.le_of_ble_eq_true rfl⟩) 0 3 rfl rfl hK hP hD hS hA hT rfl hl.1 rfl (Nat.le_of_ble_eq_true rfl) dX3_used_2 ⟨Nat.le_of_ble_eq_true rfl, Nat.le_of_ble_eq_true rfl⟩ (fun E ce q9 H locs ho hP hD hS hq1 hq2 hq3 => ?_) (fun u H locs ho hP hD hS => ?_)
  · have hf := hfx E ho
    obtain rfl := Option.some.inj hf
    subst hZ
    exact px_out hlocks hex hK hP hD hS hq1 hq2 hq3 rfl (Nat.le_of_ble_eq_true rfl) (Nat.le_of_ble_eq_true rfl)
  have hf := hfr u ho
  refine lv_aload_n hx hb dX3_used_5 rfl (lv_at hl 0 rfl) ?_
  refine va_get (D := D) (ci := 3) (v := .ref (ad 3)) (C := RX3) (T := TX3) (N := 3) hx hb hts hiX3 hown hK hP 0 rfl rfl 2 (by decide) f28 (fun _ h9 => h9) rfl dX3_used_6 ?_
  refine lv_iload_n hx hb dX3_used_9 rfl (lv_at hl 1 rfl) ?_
  obtain ⟨x10, hg10, hf⟩ := pr_b hf
  refine pw_cViW (b := ad 3) (As := [.int v1]) (rest := []) ⟨hx, hb, hml, hown, hts⟩ (c_X2_usedCells (D := D) c_states c_transitions c_timerEvent c_from c_event c_next c_variable c_relation c_number c_actions c_kind c_a c_b c_present c_now c_emits c_kept c_ignores c_values c_due c_outputs c_fired c_made c_classes c_size c_taken c_stateClass c_finerClass c_usedBits c_offsets c_owners v1 hg10) (cwV 1 hts gX3_used_X2_usedCells rfl rfl rfl (by decide +kernel) ⟨Nat.le_of_ble_eq_true rfl, Nat.le_of_ble_eq_true rfl⟩) 3 2 rfl rfl hK hP hD hS hA rfl hl.1 rfl (Nat.le_of_ble_eq_true rfl) dX3_used_10 ⟨Nat.le_of_ble_eq_true rfl, Nat.le_of_ble_eq_true rfl⟩ (fun H locs hP hD hS => ?_)
  obtain rfl := Option.some.inj hf
  subst hZ
  exact px_ri hx hb hr hlocks rfl rfl hK hP hD hS (Nat.le_of_ble_eq_true rfl) (Nat.le_of_ble_eq_true rfl) dX3_used_13
abbrev rmX3_tableSize : Room := { frames := 7, cells := 1, slots := 6, locals := 110 }
set_option maxHeartbeats 4000000 in
set_option maxRecDepth 100000 in
theorem c_X3_tableSize {l : Launch} {D : va_G} {ad : Nat → Nat} {ca : Nat → ClassId} (hst : l.stackTraces = false) (c_states c_transitions : Int32) (c_timerEvent c_from c_event c_next c_variable c_relation c_number c_actions c_kind c_a c_b : Nat → Int32) (c_present : Int32) (c_now : Int64) (c_emits c_kept c_ignores : Int32) (c_values : Nat → Int32) (c_due : Nat → Int64) (c_outputs c_fired : Nat → Int32) (c_made c_classes c_size c_taken : Int32) (c_stateClass c_finerClass c_usedBits c_offsets c_owners : Nat → Int32) {o : String ⊕ (Int32)} (hf : X3_tableSize c_made c_size = some o) : Xi l yX3_tableSize wsX3_tableSize rmX3_tableSize D (CT ca) (CW ad ca c_states c_transitions c_timerEvent c_from c_event c_next c_variable c_relation c_number c_actions c_kind c_a c_b c_present c_now c_emits c_kept c_ignores c_values c_due c_outputs c_fired c_made c_classes c_size c_taken c_stateClass c_finerClass c_usedBits c_offsets c_owners) [.ref (ad 0)] o (fun (u : Int32) => u) (fun (u : Int32) => (CW ad ca c_states c_transitions c_timerEvent c_from c_event c_next c_variable c_relation c_number c_actions c_kind c_a c_b c_present c_now c_emits c_kept c_ignores c_values c_due c_outputs c_fired c_made c_classes c_size c_taken c_stateClass c_finerClass c_usedBits c_offsets c_owners)) := by
  intro sz
  refine px_entry (Qc := fun A => px_Qi D (CT ca) (fun (u : Int32) => (CW ad ca c_states c_transitions c_timerEvent c_from c_event c_next c_variable c_relation c_number c_actions c_kind c_a c_b c_present c_now c_emits c_kept c_ignores c_values c_due c_outputs c_fired c_made c_classes c_size c_taken c_stateClass c_finerClass c_usedBits c_offsets c_owners)) A o (fun (u : Int32) => u)) (XC := fun A => px_X D (CT ca) (CW ad ca c_states c_transitions c_timerEvent c_from c_event c_next c_variable c_relation c_number c_actions c_kind c_a c_b c_present c_now c_emits c_kept c_ignores c_values c_due c_outputs c_fired c_made c_classes c_size c_taken c_stateClass c_finerClass c_usedBits c_offsets c_owners) A o) (cc := cX3_tableSize) (maxL := 1) (ret := (some .int)) (by decide) rfl (Nat.le_of_ble_eq_true rfl) ?_ sz
  intro p e s m args below meth c A ls Z H locs hx hb hr hlocks hts hown hml hnm hK hP hD hS hA hl hT hex hZ
  have hown : s.vm.findClass RX3 = some m.cls := hown
  have hiX2 : ∀ w ∈ u_ws RX2 TX2 10, w ∈ wsX3_tableSize := by decide +kernel
  have hiX3 : ∀ w ∈ u_ws RX3 TX3 3, w ∈ wsX3_tableSize := by decide +kernel
  have f176 := hts (.fieldLink RX3 176 "ProtocolMachine$Table" "size" "I") (by decide +kernel)
  have f28 := hts (.fieldLink RX3 28 "ProtocolMachine" "table" "LProtocolMachine$Table;") (by decide +kernel)
  have hl : lv_has ls 1 [(0, .ref (ad 0))] := hl
  unfold X3_tableSize at hf
  refine lv_aload_n hx hb dX3_tableSize_0 rfl (lv_at hl 0 rfl) ?_
  obtain ⟨x1, hg1, hfx, hfr⟩ := pr_x hf
  refine px_cVvW (b := ad 0) (As := []) (rest := []) ⟨hx, hb, hml, hown, hts⟩ (c_X3_needTable hst (D := D) c_states c_transitions c_timerEvent c_from c_event c_next c_variable c_relation c_number c_actions c_kind c_a c_b c_present c_now c_emits c_kept c_ignores c_values c_due c_outputs c_fired c_made c_classes c_size c_taken c_stateClass c_finerClass c_usedBits c_offsets c_owners  hg1) (cwV 0 hts gX3_tableSize_X3_needTable rfl rfl rfl (by decide +kernel) ⟨Nat.le_of_ble_eq_true rfl, Nat.le_of_ble_eq_true rfl⟩) 0 3 rfl rfl hK hP hD hS hA hT rfl hl.1 rfl (Nat.le_of_ble_eq_true rfl) dX3_tableSize_1 ⟨Nat.le_of_ble_eq_true rfl, Nat.le_of_ble_eq_true rfl⟩ (fun E ce q9 H locs ho hP hD hS hq1 hq2 hq3 => ?_) (fun u H locs ho hP hD hS => ?_)
  · have hf := hfx E ho
    obtain rfl := Option.some.inj hf
    subst hZ
    exact px_out hlocks hex hK hP hD hS hq1 hq2 hq3 rfl (Nat.le_of_ble_eq_true rfl) (Nat.le_of_ble_eq_true rfl)
  have hf := hfr u ho
  refine lv_aload_n hx hb dX3_tableSize_4 rfl (lv_at hl 0 rfl) ?_
  refine va_get (D := D) (ci := 3) (v := .ref (ad 3)) (C := RX3) (T := TX3) (N := 3) hx hb hts hiX3 hown hK hP 0 rfl rfl 2 (by decide) f28 (fun _ h9 => h9) rfl dX3_tableSize_5 ?_
  refine va_get (D := D) (ci := 2) (v := .int c_size) (C := RX2) (T := TX2) (N := 10) hx hb hts hiX2 hown hK hP 3 rfl rfl 3 (by decide) f176 (fun _ h9 => h9) rfl dX3_tableSize_8 ?_
  obtain rfl := Option.some.inj hf
  subst hZ
  exact px_ri hx hb hr hlocks rfl rfl hK hP hD hS (Nat.le_of_ble_eq_true rfl) (Nat.le_of_ble_eq_true rfl) dX3_tableSize_11
abbrev rmX3_owner : Room := { frames := 7, cells := 2, slots := 12, locals := 110 }
set_option maxHeartbeats 4000000 in
set_option maxRecDepth 100000 in
theorem c_X3_owner {l : Launch} {D : va_G} {ad : Nat → Nat} {ca : Nat → ClassId} (hst : l.stackTraces = false) (c_states c_transitions : Int32) (c_timerEvent c_from c_event c_next c_variable c_relation c_number c_actions c_kind c_a c_b : Nat → Int32) (c_present : Int32) (c_now : Int64) (c_emits c_kept c_ignores : Int32) (c_values : Nat → Int32) (c_due : Nat → Int64) (c_outputs c_fired : Nat → Int32) (c_made c_classes c_size c_taken : Int32) (c_stateClass c_finerClass c_usedBits c_offsets c_owners : Nat → Int32) (v1 : Int32) {o : String ⊕ (Int32)} (hf : X3_owner c_made c_size c_owners v1 = some o) : Xi l yX3_owner wsX3_owner rmX3_owner D (CT ca) (CW ad ca c_states c_transitions c_timerEvent c_from c_event c_next c_variable c_relation c_number c_actions c_kind c_a c_b c_present c_now c_emits c_kept c_ignores c_values c_due c_outputs c_fired c_made c_classes c_size c_taken c_stateClass c_finerClass c_usedBits c_offsets c_owners) [.ref (ad 0), .int v1] o (fun (u : Int32) => u) (fun (u : Int32) => (CW ad ca c_states c_transitions c_timerEvent c_from c_event c_next c_variable c_relation c_number c_actions c_kind c_a c_b c_present c_now c_emits c_kept c_ignores c_values c_due c_outputs c_fired c_made c_classes c_size c_taken c_stateClass c_finerClass c_usedBits c_offsets c_owners)) := by
  intro sz
  refine px_entry (Qc := fun A => px_Qi D (CT ca) (fun (u : Int32) => (CW ad ca c_states c_transitions c_timerEvent c_from c_event c_next c_variable c_relation c_number c_actions c_kind c_a c_b c_present c_now c_emits c_kept c_ignores c_values c_due c_outputs c_fired c_made c_classes c_size c_taken c_stateClass c_finerClass c_usedBits c_offsets c_owners)) A o (fun (u : Int32) => u)) (XC := fun A => px_X D (CT ca) (CW ad ca c_states c_transitions c_timerEvent c_from c_event c_next c_variable c_relation c_number c_actions c_kind c_a c_b c_present c_now c_emits c_kept c_ignores c_values c_due c_outputs c_fired c_made c_classes c_size c_taken c_stateClass c_finerClass c_usedBits c_offsets c_owners) A o) (cc := cX3_owner) (maxL := 2) (ret := (some .int)) (by decide) rfl (Nat.le_of_ble_eq_true rfl) ?_ sz
  intro p e s m args below meth c A ls Z H locs hx hb hr hlocks hts hown hml hnm hK hP hD hS hA hl hT hex hZ
  have hown : s.vm.findClass RX3 = some m.cls := hown
  have hiX2 : ∀ w ∈ u_ws RX2 TX2 10, w ∈ wsX3_owner := by decide +kernel
  have hiX3 : ∀ w ∈ u_ws RX3 TX3 3, w ∈ wsX3_owner := by decide +kernel
  have f176 := hts (.fieldLink RX3 176 "ProtocolMachine$Table" "size" "I") (by decide +kernel)
  have f181 := hts (.fieldLink RX3 181 "ProtocolMachine$Table" "owners" "[I") (by decide +kernel)
  have f28 := hts (.fieldLink RX3 28 "ProtocolMachine" "table" "LProtocolMachine$Table;") (by decide +kernel)
  have kc51 := hts (.classLink RX3 51 "java/lang/IndexOutOfBoundsException") (by decide +kernel)
  have ki51 := hts (.initialized "java/lang/IndexOutOfBoundsException") (by decide +kernel)
  have hat55 : ∀ w ∈ (vx_atS RX3 55 "java/lang/IndexOutOfBoundsException" ["java/lang/RuntimeException", "java/lang/Exception"]).filter goodWord, w.before args s = true := fun w h => hts w (List.mem_cons_of_mem _ (List.mem_append_left _ (List.mem_append_right _ h)))
  have hl : lv_has ls 2 [(0, .ref (ad 0)), (1, .int v1)] := hl
  unfold X3_owner at hf
  refine lv_aload_n hx hb dX3_owner_0 rfl (lv_at hl 0 rfl) ?_
  obtain ⟨x1, hg1, hfx, hfr⟩ := pr_x hf
  refine px_cVvW (b := ad 0) (As := []) (rest := []) ⟨hx, hb, hml, hown, hts⟩ (c_X3_needTable hst (D := D) c_states c_transitions c_timerEvent c_from c_event c_next c_variable c_relation c_number c_actions c_kind c_a c_b c_present c_now c_emits c_kept c_ignores c_values c_due c_outputs c_fired c_made c_classes c_size c_taken c_stateClass c_finerClass c_usedBits c_offsets c_owners  hg1) (cwV 0 hts gX3_owner_X3_needTable rfl rfl rfl (by decide +kernel) ⟨Nat.le_of_ble_eq_true rfl, Nat.le_of_ble_eq_true rfl⟩) 0 3 rfl rfl hK hP hD hS hA hT rfl hl.1 rfl (Nat.le_of_ble_eq_true rfl) dX3_owner_1 ⟨Nat.le_of_ble_eq_true rfl, Nat.le_of_ble_eq_true rfl⟩ (fun E ce q9 H locs ho hP hD hS hq1 hq2 hq3 => ?_) (fun u H locs ho hP hD hS => ?_)
  · have hf := hfx E ho
    obtain rfl := Option.some.inj hf
    subst hZ
    exact px_out hlocks hex hK hP hD hS hq1 hq2 hq3 rfl (Nat.le_of_ble_eq_true rfl) (Nat.le_of_ble_eq_true rfl)
  have hf := hfr u ho
  refine lv_iload_n hx hb dX3_owner_4 rfl (lv_at hl 1 rfl) ?_
  refine lv_aload_n hx hb dX3_owner_5 rfl (lv_at hl 0 rfl) ?_
  refine va_get (D := D) (ci := 3) (v := .ref (ad 3)) (C := RX3) (T := TX3) (N := 3) hx hb hts hiX3 hown hK hP 0 rfl rfl 2 (by decide) f28 (fun _ h9 => h9) rfl dX3_owner_6 ?_
  refine va_get (D := D) (ci := 2) (v := .int c_size) (C := RX2) (T := TX2) (N := 10) hx hb hts hiX2 hown hK hP 3 rfl rfl 3 (by decide) f176 (fun _ h9 => h9) rfl dX3_owner_9 ?_
  obtain ⟨x12, hg12, hf⟩ := pr_b hf
  refine pw_cSiE (As := [.int v1, .int c_size]) (rest := []) ⟨hx, hb, hml, hown, hts⟩ (c_X3_isBelow (D := D) (tys := (CT ca)) v1 c_size hg12) (va_cwS 2 hts gX3_owner_X3_isBelow rfl rfl rfl (by decide +kernel) ⟨Nat.le_of_ble_eq_true rfl, Nat.le_of_ble_eq_true rfl⟩) hK hP hD hS hA rfl hl.1 rfl (Nat.le_of_ble_eq_true rfl) dX3_owner_12 ⟨Nat.le_of_ble_eq_true rfl, Nat.le_of_ble_eq_true rfl⟩ (fun H locs hP hD hS => ?_)
  refine lv_if_ne (tgt := 28) hx hb dX3_owner_15 (by decide) (fun hc => ?_) (fun hc => ?_)
  · have hf := pr_f hf hc
    refine lv_aload_n hx hb dX3_owner_28 rfl (lv_at hl 0 rfl) ?_
    refine va_get (D := D) (ci := 3) (v := .ref (ad 3)) (C := RX3) (T := TX3) (N := 3) hx hb hts hiX3 hown hK hP 0 rfl rfl 2 (by decide) f28 (fun _ h9 => h9) rfl dX3_owner_29 ?_
    refine va_get (D := D) (ci := 2) (v := .ref (ad 23)) (C := RX2) (T := TX2) (N := 10) hx hb hts hiX2 hown hK hP 3 rfl rfl 9 (by decide) f181 (fun _ h9 => h9) rfl dX3_owner_32 ?_
    refine lv_iload_n hx hb dX3_owner_35 rfl (lv_at hl 1 rfl) ?_
    obtain ⟨hi36, hf⟩ := pr_in hf
    refine va_iald hx hb hK hP 23 19 rfl rfl hi36 dX3_owner_36 ?_
    obtain rfl := Option.some.inj hf
    subst hZ
    exact px_ri hx hb hr hlocks rfl rfl hK hP hD hS (Nat.le_of_ble_eq_true rfl) (Nat.le_of_ble_eq_true rfl) dX3_owner_37
  · have hf := pr_t hf hc
    obtain rfl := Option.some.inj hf
    subst hZ
    exact px_throw (cls := "java/lang/IndexOutOfBoundsException") (text := "there is no such cell") hx hb hst hown kc51 ki51 hat55 (by decide +kernel) (by decide +kernel) (by decide +kernel) (by decide +kernel) (by decide +kernel) hT hS hK hP hD (hl.1.trans hml.symm) dX3_owner_18 dX3_owner_21 dX3_owner_22 dX3_owner_24 dX3_owner_27 hex (Nat.le_of_ble_eq_true rfl) (Nat.le_of_ble_eq_true rfl) (Nat.le_of_ble_eq_true rfl) (Nat.le_of_ble_eq_true rfl) hlocks rfl (Nat.le_of_ble_eq_true rfl) (Nat.le_of_ble_eq_true rfl)
abbrev rmX3_density : Room := { frames := 7, cells := 1, slots := 6, locals := 110 }
set_option maxHeartbeats 4000000 in
set_option maxRecDepth 100000 in
theorem c_X3_density {l : Launch} {D : va_G} {ad : Nat → Nat} {ca : Nat → ClassId} (hst : l.stackTraces = false) (c_states c_transitions : Int32) (c_timerEvent c_from c_event c_next c_variable c_relation c_number c_actions c_kind c_a c_b : Nat → Int32) (c_present : Int32) (c_now : Int64) (c_emits c_kept c_ignores : Int32) (c_values : Nat → Int32) (c_due : Nat → Int64) (c_outputs c_fired : Nat → Int32) (c_made c_classes c_size c_taken : Int32) (c_stateClass c_finerClass c_usedBits c_offsets c_owners : Nat → Int32) {o : String ⊕ (UInt64)} (hf : X3_density c_made c_size c_taken = some o) : Xd l yX3_density wsX3_density rmX3_density D (CT ca) (CW ad ca c_states c_transitions c_timerEvent c_from c_event c_next c_variable c_relation c_number c_actions c_kind c_a c_b c_present c_now c_emits c_kept c_ignores c_values c_due c_outputs c_fired c_made c_classes c_size c_taken c_stateClass c_finerClass c_usedBits c_offsets c_owners) [.ref (ad 0)] o (fun (u : UInt64) => u) (fun (u : UInt64) => (CW ad ca c_states c_transitions c_timerEvent c_from c_event c_next c_variable c_relation c_number c_actions c_kind c_a c_b c_present c_now c_emits c_kept c_ignores c_values c_due c_outputs c_fired c_made c_classes c_size c_taken c_stateClass c_finerClass c_usedBits c_offsets c_owners)) := by
  intro sz
  refine px_entry (Qc := fun A => px_Qd D (CT ca) (fun (u : UInt64) => (CW ad ca c_states c_transitions c_timerEvent c_from c_event c_next c_variable c_relation c_number c_actions c_kind c_a c_b c_present c_now c_emits c_kept c_ignores c_values c_due c_outputs c_fired c_made c_classes c_size c_taken c_stateClass c_finerClass c_usedBits c_offsets c_owners)) A o (fun (u : UInt64) => u)) (XC := fun A => px_X D (CT ca) (CW ad ca c_states c_transitions c_timerEvent c_from c_event c_next c_variable c_relation c_number c_actions c_kind c_a c_b c_present c_now c_emits c_kept c_ignores c_values c_due c_outputs c_fired c_made c_classes c_size c_taken c_stateClass c_finerClass c_usedBits c_offsets c_owners) A o) (cc := cX3_density) (maxL := 1) (ret := (some .double)) (by decide) rfl (Nat.le_of_ble_eq_true rfl) ?_ sz
  intro p e s m args below meth c A ls Z H locs hx hb hr hlocks hts hown hml hnm hK hP hD hS hA hl hT hex hZ
  have hown : s.vm.findClass RX3 = some m.cls := hown
  have hiX2 : ∀ w ∈ u_ws RX2 TX2 10, w ∈ wsX3_density := by decide +kernel
  have hiX3 : ∀ w ∈ u_ws RX3 TX3 3, w ∈ wsX3_density := by decide +kernel
  have f176 := hts (.fieldLink RX3 176 "ProtocolMachine$Table" "size" "I") (by decide +kernel)
  have f184 := hts (.fieldLink RX3 184 "ProtocolMachine$Table" "taken" "I") (by decide +kernel)
  have f28 := hts (.fieldLink RX3 28 "ProtocolMachine" "table" "LProtocolMachine$Table;") (by decide +kernel)
  have hl : lv_has ls 1 [(0, .ref (ad 0))] := hl
  unfold X3_density at hf
  refine lv_aload_n hx hb dX3_density_0 rfl (lv_at hl 0 rfl) ?_
  obtain ⟨x1, hg1, hfx, hfr⟩ := pr_x hf
  refine px_cVvW (b := ad 0) (As := []) (rest := []) ⟨hx, hb, hml, hown, hts⟩ (c_X3_needTable hst (D := D) c_states c_transitions c_timerEvent c_from c_event c_next c_variable c_relation c_number c_actions c_kind c_a c_b c_present c_now c_emits c_kept c_ignores c_values c_due c_outputs c_fired c_made c_classes c_size c_taken c_stateClass c_finerClass c_usedBits c_offsets c_owners  hg1) (cwV 0 hts gX3_density_X3_needTable rfl rfl rfl (by decide +kernel) ⟨Nat.le_of_ble_eq_true rfl, Nat.le_of_ble_eq_true rfl⟩) 0 3 rfl rfl hK hP hD hS hA hT rfl hl.1 rfl (Nat.le_of_ble_eq_true rfl) dX3_density_1 ⟨Nat.le_of_ble_eq_true rfl, Nat.le_of_ble_eq_true rfl⟩ (fun E ce q9 H locs ho hP hD hS hq1 hq2 hq3 => ?_) (fun u H locs ho hP hD hS => ?_)
  · have hf := hfx E ho
    obtain rfl := Option.some.inj hf
    subst hZ
    exact px_out hlocks hex hK hP hD hS hq1 hq2 hq3 rfl (Nat.le_of_ble_eq_true rfl) (Nat.le_of_ble_eq_true rfl)
  have hf := hfr u ho
  refine lv_aload_n hx hb dX3_density_4 rfl (lv_at hl 0 rfl) ?_
  refine va_get (D := D) (ci := 3) (v := .ref (ad 3)) (C := RX3) (T := TX3) (N := 3) hx hb hts hiX3 hown hK hP 0 rfl rfl 2 (by decide) f28 (fun _ h9 => h9) rfl dX3_density_5 ?_
  refine va_get (D := D) (ci := 2) (v := .int c_size) (C := RX2) (T := TX2) (N := 10) hx hb hts hiX2 hown hK hP 3 rfl rfl 3 (by decide) f176 (fun _ h9 => h9) rfl dX3_density_8 ?_
  refine lv_if_gt (tgt := 16) hx hb dX3_density_11 (by decide) (fun hc => ?_) (fun hc => ?_)
  · have hf := pr_t hf hc
    refine lv_aload_n hx hb dX3_density_16 rfl (lv_at hl 0 rfl) ?_
    refine va_get (D := D) (ci := 3) (v := .ref (ad 3)) (C := RX3) (T := TX3) (N := 3) hx hb hts hiX3 hown hK hP 0 rfl rfl 2 (by decide) f28 (fun _ h9 => h9) rfl dX3_density_17 ?_
    refine va_get (D := D) (ci := 2) (v := .int c_taken) (C := RX2) (T := TX2) (N := 10) hx hb hts hiX2 hown hK hP 3 rfl rfl 4 (by decide) f184 (fun _ h9 => h9) rfl dX3_density_20 ?_
    refine lv_i2d hx hb dX3_density_23 ?_
    refine lv_aload_n hx hb dX3_density_24 rfl (lv_at hl 0 rfl) ?_
    refine va_get (D := D) (ci := 3) (v := .ref (ad 3)) (C := RX3) (T := TX3) (N := 3) hx hb hts hiX3 hown hK hP 0 rfl rfl 2 (by decide) f28 (fun _ h9 => h9) rfl dX3_density_25 ?_
    refine va_get (D := D) (ci := 2) (v := .int c_size) (C := RX2) (T := TX2) (N := 10) hx hb hts hiX2 hown hK hP 3 rfl rfl 3 (by decide) f176 (fun _ h9 => h9) rfl dX3_density_28 ?_
    refine lv_i2d hx hb dX3_density_31 ?_
    obtain ⟨hn32, hf⟩ := pr_nn hf
    refine lv_ddiv hx hb dX3_density_32 hn32 ?_
    obtain rfl := Option.some.inj hf
    subst hZ
    exact px_rd hx hb hr hlocks rfl rfl hK hP hD hS (Nat.le_of_ble_eq_true rfl) (Nat.le_of_ble_eq_true rfl) dX3_density_33
  · have hf := pr_f hf hc
    refine lv_dconst1 hx hb dX3_density_14 ?_
    obtain rfl := Option.some.inj hf
    subst hZ
    exact px_rd hx hb hr hlocks rfl rfl hK hP hD hS (Nat.le_of_ble_eq_true rfl) (Nat.le_of_ble_eq_true rfl) dX3_density_15
abbrev rmX3_mixExecution : Room := { frames := 1, cells := 0, slots := 0, locals := 23 }
set_option maxHeartbeats 4000000 in
set_option maxRecDepth 100000 in
theorem c_X3_mixExecution {l : Launch} {D : va_G} {ad : Nat → Nat} {ca : Nat → ClassId} (fu : Nat) (c_states c_transitions : Int32) (c_timerEvent c_from c_event c_next c_variable c_relation c_number c_actions c_kind c_a c_b : Nat → Int32) (c_present : Int32) (c_now : Int64) (c_emits c_kept c_ignores : Int32) (c_values : Nat → Int32) (c_due : Nat → Int64) (c_outputs c_fired : Nat → Int32) (c_made c_classes c_size c_taken : Int32) (c_stateClass c_finerClass c_usedBits c_offsets c_owners : Nat → Int32) (v1 : Int64) {o : Int64} (hf : X3_mixExecution fu c_present c_now c_emits c_ignores c_values c_due v1 = some o) : Cl l yX3_mixExecution wsX3_mixExecution rmX3_mixExecution D (CT ca) (CW ad ca c_states c_transitions c_timerEvent c_from c_event c_next c_variable c_relation c_number c_actions c_kind c_a c_b c_present c_now c_emits c_kept c_ignores c_values c_due c_outputs c_fired c_made c_classes c_size c_taken c_stateClass c_finerClass c_usedBits c_offsets c_owners) [.ref (ad 0), .long v1] o (CW ad ca c_states c_transitions c_timerEvent c_from c_event c_next c_variable c_relation c_number c_actions c_kind c_a c_b c_present c_now c_emits c_kept c_ignores c_values c_due c_outputs c_fired c_made c_classes c_size c_taken c_stateClass c_finerClass c_usedBits c_offsets c_owners) := by
  intro sz
  refine pw_entry (Qc := fun A => pw_Ql D (CT ca) (CW ad ca c_states c_transitions c_timerEvent c_from c_event c_next c_variable c_relation c_number c_actions c_kind c_a c_b c_present c_now c_emits c_kept c_ignores c_values c_due c_outputs c_fired c_made c_classes c_size c_taken c_stateClass c_finerClass c_usedBits c_offsets c_owners) A o) (cc := cX3_mixExecution) (maxL := 6) (ret := (some .long)) (by decide) rfl (Nat.le_of_ble_eq_true rfl) ?_ sz
  intro p e s m args below meth c A ls Z H locs hx hb hr hlocks hts hown hml hnm hK hP hD hS hA hl hZ
  have hown : s.vm.findClass RX3 = some m.cls := hown
  have hiX0 : ∀ w ∈ u_ws RX0 TX0 10, w ∈ wsX3_mixExecution := by decide +kernel
  have hiX3 : ∀ w ∈ u_ws RX3 TX3 3, w ∈ wsX3_mixExecution := by decide +kernel
  have f113 := hts (.fieldLink RX3 113 "ProtocolMachine$Execution" "now" "J") (by decide +kernel)
  have f129 := hts (.fieldLink RX3 129 "ProtocolMachine$Execution" "present" "I") (by decide +kernel)
  have f132 := hts (.fieldLink RX3 132 "ProtocolMachine$Execution" "values" "[I") (by decide +kernel)
  have f140 := hts (.fieldLink RX3 140 "ProtocolMachine$Execution" "emits" "I") (by decide +kernel)
  have f151 := hts (.fieldLink RX3 151 "ProtocolMachine$Execution" "ignores" "I") (by decide +kernel)
  have f21 := hts (.fieldLink RX3 21 "ProtocolMachine" "execution" "LProtocolMachine$Execution;") (by decide +kernel)
  have hl : lv_has ls 6 [(0, .ref (ad 0)), (1, .long v1)] := hl
  have B86 : ∀ (v3 : Int64) (H : Heap) (locs : List Loc) (ls : Array Slot), va_P D vwCl (CW ad ca c_states c_transitions c_timerEvent c_from c_event c_next c_variable c_relation c_number c_actions c_kind c_a c_b c_present c_now c_emits c_kept c_ignores c_values c_due c_outputs c_fired c_made c_classes c_size c_taken c_stateClass c_finerClass c_usedBits c_offsets c_owners) H → va_D A (CW ad ca c_states c_transitions c_timerEvent c_from c_event c_next c_variable c_relation c_number c_actions c_kind c_a c_b c_present c_now c_emits c_kept c_ignores c_values c_due c_outputs c_fired c_made c_classes c_size c_taken c_stateClass c_finerClass c_usedBits c_offsets c_owners) → va_S A s.heap H locs → lv_has ls 6 [(0, .ref (ad 0)), (3, .long v3)] → X3_mixExecution_B86 c_emits c_ignores v3 = some o → W p l e rmX3_mixExecution s m args below meth c H locs 0 0 Z (F0 m 86 ls []) := by
    intro v3 H locs ls hP hD hS hl hf
    unfold X3_mixExecution_B86 at hf
    refine lv_lload_n hx hb dX3_mixExecution_86 rfl (lv_at hl 1 rfl) ?_
    refine lv_aload_n hx hb dX3_mixExecution_87 rfl (lv_at hl 0 rfl) ?_
    refine va_get (D := D) (ci := 3) (v := .ref (ad 2)) (C := RX3) (T := TX3) (N := 3) hx hb hts hiX3 hown hK hP 0 rfl rfl 1 (by decide) f21 (fun _ h9 => h9) rfl dX3_mixExecution_88 ?_
    refine va_get (D := D) (ci := 0) (v := .int c_emits) (C := RX0) (T := TX0) (N := 10) hx hb hts hiX0 hown hK hP 2 rfl rfl 3 (by decide) f140 (fun _ h9 => h9) rfl dX3_mixExecution_91 ?_
    refine lv_i2l (v := c_emits.toInt64) hx hb dX3_mixExecution_94 rfl ?_
    obtain ⟨x95, hg95, hf⟩ := pr_b hf
    refine pw_cSlE (As := [.long v3, .long c_emits.toInt64]) (rest := []) ⟨hx, hb, hml, hown, hts⟩ (c_X3_mix (D := D) (tys := (CT ca)) v3 c_emits.toInt64 hg95) (va_cwS 2 hts gX3_mixExecution_X3_mix rfl rfl rfl (by decide +kernel) ⟨Nat.le_of_ble_eq_true rfl, Nat.le_of_ble_eq_true rfl⟩) hK hP hD hS hA rfl hl.1 rfl (Nat.le_of_ble_eq_true rfl) dX3_mixExecution_95 ⟨Nat.le_of_ble_eq_true rfl, Nat.le_of_ble_eq_true rfl⟩ (fun H locs hP hD hS => ?_)
    refine lv_lstore_n (lv' := [(3, .long x95), (0, .ref (ad 0))]) hx hb dX3_mixExecution_98 rfl hl (by decide) rfl (fun ls hl => ?_)
    refine lv_lload_n hx hb dX3_mixExecution_99 rfl (lv_at hl 0 rfl) ?_
    refine lv_aload_n hx hb dX3_mixExecution_100 rfl (lv_at hl 1 rfl) ?_
    refine va_get (D := D) (ci := 3) (v := .ref (ad 2)) (C := RX3) (T := TX3) (N := 3) hx hb hts hiX3 hown hK hP 0 rfl rfl 1 (by decide) f21 (fun _ h9 => h9) rfl dX3_mixExecution_101 ?_
    refine va_get (D := D) (ci := 0) (v := .int c_ignores) (C := RX0) (T := TX0) (N := 10) hx hb hts hiX0 hown hK hP 2 rfl rfl 5 (by decide) f151 (fun _ h9 => h9) rfl dX3_mixExecution_104 ?_
    refine lv_i2l (v := c_ignores.toInt64) hx hb dX3_mixExecution_107 rfl ?_
    obtain ⟨x108, hg108, hf⟩ := pr_b hf
    refine pw_cSlE (As := [.long x95, .long c_ignores.toInt64]) (rest := []) ⟨hx, hb, hml, hown, hts⟩ (c_X3_mix (D := D) (tys := (CT ca)) x95 c_ignores.toInt64 hg108) (va_cwS 2 hts gX3_mixExecution_X3_mix rfl rfl rfl (by decide +kernel) ⟨Nat.le_of_ble_eq_true rfl, Nat.le_of_ble_eq_true rfl⟩) hK hP hD hS hA rfl hl.1 rfl (Nat.le_of_ble_eq_true rfl) dX3_mixExecution_108 ⟨Nat.le_of_ble_eq_true rfl, Nat.le_of_ble_eq_true rfl⟩ (fun H locs hP hD hS => ?_)
    obtain rfl := Option.some.inj hf
    subst hZ
    exact pw_rl hx hb hr hlocks hK hP hD hS (Nat.le_of_ble_eq_true rfl) (Nat.le_of_ble_eq_true rfl) dX3_mixExecution_111
  have L59 : ∀ n59 : Nat, ∀ (v3 : Int64) (v5 : Int32) (H : Heap) (locs : List Loc) (ls : Array Slot), va_P D vwCl (CW ad ca c_states c_transitions c_timerEvent c_from c_event c_next c_variable c_relation c_number c_actions c_kind c_a c_b c_present c_now c_emits c_kept c_ignores c_values c_due c_outputs c_fired c_made c_classes c_size c_taken c_stateClass c_finerClass c_usedBits c_offsets c_owners) H → va_D A (CW ad ca c_states c_transitions c_timerEvent c_from c_event c_next c_variable c_relation c_number c_actions c_kind c_a c_b c_present c_now c_emits c_kept c_ignores c_values c_due c_outputs c_fired c_made c_classes c_size c_taken c_stateClass c_finerClass c_usedBits c_offsets c_owners) → va_S A s.heap H locs → lv_has ls 6 [(0, .ref (ad 0)), (3, .long v3), (5, .int v5)] → X3_mixExecution_L59 c_now c_emits c_ignores c_due n59 v3 v5 = some o → W p l e rmX3_mixExecution s m args below meth c H locs 0 0 Z (F0 m 59 ls []) := by
    intro n59
    induction n59 with
    | zero =>
      intro v3 v5 H locs ls hP hD hS hl hf
      exact pr_n hf
    | succ n59 ih59 =>
      intro v3 v5 H locs ls hP hD hS hl hf
      replace hf : X3_mixExecution_B59 c_now c_emits c_ignores c_due (X3_mixExecution_L59 c_now c_emits c_ignores c_due  n59) v3 v5 = some o := hf
      unfold X3_mixExecution_B59 at hf
      refine lv_iload hx hb dX3_mixExecution_59 (lv_at hl 2 rfl) ?_
      refine lv_iconst (v := (4 : Int32)) hx hb dX3_mixExecution_61 (by decide) ?_
      refine lv_icmp_ge (tgt := 86) hx hb dX3_mixExecution_62 (by decide) (fun hc => ?_) (fun hc => ?_)
      · have hf := pr_t hf hc
        exact B86 v3 H locs ls hP hD hS (lv_sub hl [0, 1] rfl) hf
      · have hf := pr_f hf hc
        refine lv_lload_n hx hb dX3_mixExecution_65 rfl (lv_at hl 1 rfl) ?_
        refine lv_aload_n hx hb dX3_mixExecution_66 rfl (lv_at hl 0 rfl) ?_
        refine va_get (D := D) (ci := 3) (v := .ref (ad 2)) (C := RX3) (T := TX3) (N := 3) hx hb hts hiX3 hown hK hP 0 rfl rfl 1 (by decide) f21 (fun _ h9 => h9) rfl dX3_mixExecution_67 ?_
        refine lv_iload hx hb dX3_mixExecution_70 (lv_at hl 2 rfl) ?_
        obtain ⟨x72, hg72, hf⟩ := pr_b hf
        refine pw_cViW (b := ad 2) (As := [.int v5]) (rest := [.long v3]) ⟨hx, hb, hml, hown, hts⟩ (c_X0_ticksLeft (D := D) c_states c_transitions c_timerEvent c_from c_event c_next c_variable c_relation c_number c_actions c_kind c_a c_b c_present c_now c_emits c_kept c_ignores c_values c_due c_outputs c_fired c_made c_classes c_size c_taken c_stateClass c_finerClass c_usedBits c_offsets c_owners v5 hg72) (cwV 1 hts gX3_mixExecution_X0_ticksLeft rfl rfl rfl (by decide +kernel) ⟨Nat.le_of_ble_eq_true rfl, Nat.le_of_ble_eq_true rfl⟩) 2 0 rfl rfl hK hP hD hS hA rfl hl.1 rfl (Nat.le_of_ble_eq_true rfl) dX3_mixExecution_72 ⟨Nat.le_of_ble_eq_true rfl, Nat.le_of_ble_eq_true rfl⟩ (fun H locs hP hD hS => ?_)
        refine lv_i2l (v := x72.toInt64) hx hb dX3_mixExecution_75 rfl ?_
        obtain ⟨x76, hg76, hf⟩ := pr_b hf
        refine pw_cSlE (As := [.long v3, .long x72.toInt64]) (rest := []) ⟨hx, hb, hml, hown, hts⟩ (c_X3_mix (D := D) (tys := (CT ca)) v3 x72.toInt64 hg76) (va_cwS 2 hts gX3_mixExecution_X3_mix rfl rfl rfl (by decide +kernel) ⟨Nat.le_of_ble_eq_true rfl, Nat.le_of_ble_eq_true rfl⟩) hK hP hD hS hA rfl hl.1 rfl (Nat.le_of_ble_eq_true rfl) dX3_mixExecution_76 ⟨Nat.le_of_ble_eq_true rfl, Nat.le_of_ble_eq_true rfl⟩ (fun H locs hP hD hS => ?_)
        refine lv_lstore_n (lv' := [(3, .long x76), (0, .ref (ad 0)), (5, .int v5)]) hx hb dX3_mixExecution_79 rfl hl (by decide) rfl (fun ls hl => ?_)
        refine lv_iinc (v := (v5 + (1 : Int32))) (lv' := [(5, .int (v5 + (1 : Int32))), (3, .long x76), (0, .ref (ad 0))]) hx hb dX3_mixExecution_80 hl (k := 2) rfl rfl (by decide) rfl (fun ls hl => ?_)
        refine lv_goto (tgt := 59) hx hb dX3_mixExecution_83 (by decide) ?_
        exact ih59 x76 (v5 + (1 : Int32)) H locs ls hP hD hS (lv_sub hl [2, 1, 0] rfl) hf
  have L28 : ∀ n28 : Nat, ∀ (v3 : Int64) (v5 : Int32) (H : Heap) (locs : List Loc) (ls : Array Slot), va_P D vwCl (CW ad ca c_states c_transitions c_timerEvent c_from c_event c_next c_variable c_relation c_number c_actions c_kind c_a c_b c_present c_now c_emits c_kept c_ignores c_values c_due c_outputs c_fired c_made c_classes c_size c_taken c_stateClass c_finerClass c_usedBits c_offsets c_owners) H → va_D A (CW ad ca c_states c_transitions c_timerEvent c_from c_event c_next c_variable c_relation c_number c_actions c_kind c_a c_b c_present c_now c_emits c_kept c_ignores c_values c_due c_outputs c_fired c_made c_classes c_size c_taken c_stateClass c_finerClass c_usedBits c_offsets c_owners) → va_S A s.heap H locs → lv_has ls 6 [(0, .ref (ad 0)), (3, .long v3), (5, .int v5)] → X3_mixExecution_L28 fu c_now c_emits c_ignores c_values c_due n28 v3 v5 = some o → W p l e rmX3_mixExecution s m args below meth c H locs 0 0 Z (F0 m 28 ls []) := by
    intro n28
    induction n28 with
    | zero =>
      intro v3 v5 H locs ls hP hD hS hl hf
      exact pr_n hf
    | succ n28 ih28 =>
      intro v3 v5 H locs ls hP hD hS hl hf
      replace hf : X3_mixExecution_B28 fu c_now c_emits c_ignores c_values c_due (X3_mixExecution_L28 fu c_now c_emits c_ignores c_values c_due  n28) v3 v5 = some o := hf
      unfold X3_mixExecution_B28 at hf
      refine lv_iload hx hb dX3_mixExecution_28 (lv_at hl 2 rfl) ?_
      refine lv_iconst (v := (3 : Int32)) hx hb dX3_mixExecution_30 (by decide) ?_
      refine lv_icmp_ge (tgt := 56) hx hb dX3_mixExecution_31 (by decide) (fun hc => ?_) (fun hc => ?_)
      · have hf := pr_t hf hc
        refine lv_iconst (v := (0 : Int32)) hx hb dX3_mixExecution_56 (by decide) ?_
        refine lv_istore (lv' := [(5, .int (0 : Int32)), (0, .ref (ad 0)), (3, .long v3)]) hx hb dX3_mixExecution_57 hl (by decide) rfl (fun ls hl => ?_)
        exact L59 fu v3 (0 : Int32) H locs ls hP hD hS (lv_sub hl [1, 2, 0] rfl) hf
      · have hf := pr_f hf hc
        refine lv_lload_n hx hb dX3_mixExecution_34 rfl (lv_at hl 1 rfl) ?_
        refine lv_aload_n hx hb dX3_mixExecution_35 rfl (lv_at hl 0 rfl) ?_
        refine va_get (D := D) (ci := 3) (v := .ref (ad 2)) (C := RX3) (T := TX3) (N := 3) hx hb hts hiX3 hown hK hP 0 rfl rfl 1 (by decide) f21 (fun _ h9 => h9) rfl dX3_mixExecution_36 ?_
        refine va_get (D := D) (ci := 0) (v := .ref (ad 15)) (C := RX0) (T := TX0) (N := 10) hx hb hts hiX0 hown hK hP 2 rfl rfl 6 (by decide) f132 (fun _ h9 => h9) rfl dX3_mixExecution_39 ?_
        refine lv_iload hx hb dX3_mixExecution_42 (lv_at hl 2 rfl) ?_
        obtain ⟨hi44, hf⟩ := pr_in hf
        refine va_iald hx hb hK hP 15 11 rfl rfl hi44 dX3_mixExecution_44 ?_
        refine lv_i2l (v := (c_values v5.toNatClampNeg).toInt64) hx hb dX3_mixExecution_45 rfl ?_
        obtain ⟨x46, hg46, hf⟩ := pr_b hf
        refine pw_cSlE (As := [.long v3, .long ((c_values v5.toNatClampNeg).toInt64)]) (rest := []) ⟨hx, hb, hml, hown, hts⟩ (c_X3_mix (D := D) (tys := (CT ca)) v3 ((c_values v5.toNatClampNeg).toInt64) hg46) (va_cwS 2 hts gX3_mixExecution_X3_mix rfl rfl rfl (by decide +kernel) ⟨Nat.le_of_ble_eq_true rfl, Nat.le_of_ble_eq_true rfl⟩) hK hP hD hS hA rfl hl.1 rfl (Nat.le_of_ble_eq_true rfl) dX3_mixExecution_46 ⟨Nat.le_of_ble_eq_true rfl, Nat.le_of_ble_eq_true rfl⟩ (fun H locs hP hD hS => ?_)
        refine lv_lstore_n (lv' := [(3, .long x46), (0, .ref (ad 0)), (5, .int v5)]) hx hb dX3_mixExecution_49 rfl hl (by decide) rfl (fun ls hl => ?_)
        refine lv_iinc (v := (v5 + (1 : Int32))) (lv' := [(5, .int (v5 + (1 : Int32))), (3, .long x46), (0, .ref (ad 0))]) hx hb dX3_mixExecution_50 hl (k := 2) rfl rfl (by decide) rfl (fun ls hl => ?_)
        refine lv_goto (tgt := 28) hx hb dX3_mixExecution_53 (by decide) ?_
        exact ih28 x46 (v5 + (1 : Int32)) H locs ls hP hD hS (lv_sub hl [2, 1, 0] rfl) hf
  unfold X3_mixExecution at hf
  refine lv_lload_n hx hb dX3_mixExecution_0 rfl (lv_at hl 1 rfl) ?_
  refine lv_aload_n hx hb dX3_mixExecution_1 rfl (lv_at hl 0 rfl) ?_
  refine va_get (D := D) (ci := 3) (v := .ref (ad 2)) (C := RX3) (T := TX3) (N := 3) hx hb hts hiX3 hown hK hP 0 rfl rfl 1 (by decide) f21 (fun _ h9 => h9) rfl dX3_mixExecution_2 ?_
  refine va_get (D := D) (ci := 0) (v := .int c_present) (C := RX0) (T := TX0) (N := 10) hx hb hts hiX0 hown hK hP 2 rfl rfl 1 (by decide) f129 (fun _ h9 => h9) rfl dX3_mixExecution_5 ?_
  refine lv_i2l (v := c_present.toInt64) hx hb dX3_mixExecution_8 rfl ?_
  obtain ⟨x9, hg9, hf⟩ := pr_b hf
  refine pw_cSlE (As := [.long v1, .long c_present.toInt64]) (rest := []) ⟨hx, hb, hml, hown, hts⟩ (c_X3_mix (D := D) (tys := (CT ca)) v1 c_present.toInt64 hg9) (va_cwS 2 hts gX3_mixExecution_X3_mix rfl rfl rfl (by decide +kernel) ⟨Nat.le_of_ble_eq_true rfl, Nat.le_of_ble_eq_true rfl⟩) hK hP hD hS hA rfl hl.1 rfl (Nat.le_of_ble_eq_true rfl) dX3_mixExecution_9 ⟨Nat.le_of_ble_eq_true rfl, Nat.le_of_ble_eq_true rfl⟩ (fun H locs hP hD hS => ?_)
  refine lv_lstore_n (lv' := [(3, .long x9), (0, .ref (ad 0)), (1, .long v1)]) hx hb dX3_mixExecution_12 rfl hl (by decide) rfl (fun ls hl => ?_)
  refine lv_lload_n hx hb dX3_mixExecution_13 rfl (lv_at hl 0 rfl) ?_
  refine lv_aload_n hx hb dX3_mixExecution_14 rfl (lv_at hl 1 rfl) ?_
  refine va_get (D := D) (ci := 3) (v := .ref (ad 2)) (C := RX3) (T := TX3) (N := 3) hx hb hts hiX3 hown hK hP 0 rfl rfl 1 (by decide) f21 (fun _ h9 => h9) rfl dX3_mixExecution_15 ?_
  refine va_get (D := D) (ci := 0) (v := .long c_now) (C := RX0) (T := TX0) (N := 10) hx hb hts hiX0 hown hK hP 2 rfl rfl 2 (by decide) f113 (fun _ h9 => h9) rfl dX3_mixExecution_18 ?_
  obtain ⟨x21, hg21, hf⟩ := pr_b hf
  refine pw_cSlE (As := [.long x9, .long c_now]) (rest := []) ⟨hx, hb, hml, hown, hts⟩ (c_X3_mix (D := D) (tys := (CT ca)) x9 c_now hg21) (va_cwS 2 hts gX3_mixExecution_X3_mix rfl rfl rfl (by decide +kernel) ⟨Nat.le_of_ble_eq_true rfl, Nat.le_of_ble_eq_true rfl⟩) hK hP hD hS hA rfl hl.1 rfl (Nat.le_of_ble_eq_true rfl) dX3_mixExecution_21 ⟨Nat.le_of_ble_eq_true rfl, Nat.le_of_ble_eq_true rfl⟩ (fun H locs hP hD hS => ?_)
  refine lv_lstore_n (lv' := [(3, .long x21), (0, .ref (ad 0)), (1, .long v1)]) hx hb dX3_mixExecution_24 rfl hl (by decide) rfl (fun ls hl => ?_)
  refine lv_iconst (v := (0 : Int32)) hx hb dX3_mixExecution_25 (by decide) ?_
  refine lv_istore (lv' := [(5, .int (0 : Int32)), (3, .long x21), (0, .ref (ad 0)), (1, .long v1)]) hx hb dX3_mixExecution_26 hl (by decide) rfl (fun ls hl => ?_)
  exact L28 fu x21 (0 : Int32) H locs ls hP hD hS (lv_sub hl [2, 1, 0] rfl) hf
abbrev rmX3_mixTable : Room := { frames := 1, cells := 0, slots := 0, locals := 23 }
set_option maxHeartbeats 4000000 in
set_option maxRecDepth 100000 in
theorem c_X3_mixTable {l : Launch} {D : va_G} {ad : Nat → Nat} {ca : Nat → ClassId} (fu : Nat) (c_states c_transitions : Int32) (c_timerEvent c_from c_event c_next c_variable c_relation c_number c_actions c_kind c_a c_b : Nat → Int32) (c_present : Int32) (c_now : Int64) (c_emits c_kept c_ignores : Int32) (c_values : Nat → Int32) (c_due : Nat → Int64) (c_outputs c_fired : Nat → Int32) (c_made c_classes c_size c_taken : Int32) (c_stateClass c_finerClass c_usedBits c_offsets c_owners : Nat → Int32) (v1 : Int64) {o : Int64} (hf : X3_mixTable fu c_classes c_offsets v1 = some o) : Cl l yX3_mixTable wsX3_mixTable rmX3_mixTable D (CT ca) (CW ad ca c_states c_transitions c_timerEvent c_from c_event c_next c_variable c_relation c_number c_actions c_kind c_a c_b c_present c_now c_emits c_kept c_ignores c_values c_due c_outputs c_fired c_made c_classes c_size c_taken c_stateClass c_finerClass c_usedBits c_offsets c_owners) [.ref (ad 0), .long v1] o (CW ad ca c_states c_transitions c_timerEvent c_from c_event c_next c_variable c_relation c_number c_actions c_kind c_a c_b c_present c_now c_emits c_kept c_ignores c_values c_due c_outputs c_fired c_made c_classes c_size c_taken c_stateClass c_finerClass c_usedBits c_offsets c_owners) := by
  intro sz
  refine pw_entry (Qc := fun A => pw_Ql D (CT ca) (CW ad ca c_states c_transitions c_timerEvent c_from c_event c_next c_variable c_relation c_number c_actions c_kind c_a c_b c_present c_now c_emits c_kept c_ignores c_values c_due c_outputs c_fired c_made c_classes c_size c_taken c_stateClass c_finerClass c_usedBits c_offsets c_owners) A o) (cc := cX3_mixTable) (maxL := 6) (ret := (some .long)) (by decide) rfl (Nat.le_of_ble_eq_true rfl) ?_ sz
  intro p e s m args below meth c A ls Z H locs hx hb hr hlocks hts hown hml hnm hK hP hD hS hA hl hZ
  have hown : s.vm.findClass RX3 = some m.cls := hown
  have hiX2 : ∀ w ∈ u_ws RX2 TX2 10, w ∈ wsX3_mixTable := by decide +kernel
  have hiX3 : ∀ w ∈ u_ws RX3 TX3 3, w ∈ wsX3_mixTable := by decide +kernel
  have f157 := hts (.fieldLink RX3 157 "ProtocolMachine$Table" "classes" "I") (by decide +kernel)
  have f170 := hts (.fieldLink RX3 170 "ProtocolMachine$Table" "offsets" "[I") (by decide +kernel)
  have f28 := hts (.fieldLink RX3 28 "ProtocolMachine" "table" "LProtocolMachine$Table;") (by decide +kernel)
  have hl : lv_has ls 6 [(0, .ref (ad 0)), (1, .long v1)] := hl
  have L16 : ∀ n16 : Nat, ∀ (v3 : Int64) (v5 : Int32) (H : Heap) (locs : List Loc) (ls : Array Slot), va_P D vwCl (CW ad ca c_states c_transitions c_timerEvent c_from c_event c_next c_variable c_relation c_number c_actions c_kind c_a c_b c_present c_now c_emits c_kept c_ignores c_values c_due c_outputs c_fired c_made c_classes c_size c_taken c_stateClass c_finerClass c_usedBits c_offsets c_owners) H → va_D A (CW ad ca c_states c_transitions c_timerEvent c_from c_event c_next c_variable c_relation c_number c_actions c_kind c_a c_b c_present c_now c_emits c_kept c_ignores c_values c_due c_outputs c_fired c_made c_classes c_size c_taken c_stateClass c_finerClass c_usedBits c_offsets c_owners) → va_S A s.heap H locs → lv_has ls 6 [(0, .ref (ad 0)), (3, .long v3), (5, .int v5)] → X3_mixTable_L16 c_classes c_offsets n16 v3 v5 = some o → W p l e rmX3_mixTable s m args below meth c H locs 0 0 Z (F0 m 16 ls []) := by
    intro n16
    induction n16 with
    | zero =>
      intro v3 v5 H locs ls hP hD hS hl hf
      exact pr_n hf
    | succ n16 ih16 =>
      intro v3 v5 H locs ls hP hD hS hl hf
      replace hf : X3_mixTable_B16 c_classes c_offsets (X3_mixTable_L16 c_classes c_offsets  n16) v3 v5 = some o := hf
      unfold X3_mixTable_B16 at hf
      refine lv_iload hx hb dX3_mixTable_16 (lv_at hl 2 rfl) ?_
      refine lv_aload_n hx hb dX3_mixTable_18 rfl (lv_at hl 0 rfl) ?_
      refine va_get (D := D) (ci := 3) (v := .ref (ad 3)) (C := RX3) (T := TX3) (N := 3) hx hb hts hiX3 hown hK hP 0 rfl rfl 2 (by decide) f28 (fun _ h9 => h9) rfl dX3_mixTable_19 ?_
      refine va_get (D := D) (ci := 2) (v := .int c_classes) (C := RX2) (T := TX2) (N := 10) hx hb hts hiX2 hown hK hP 3 rfl rfl 2 (by decide) f157 (fun _ h9 => h9) rfl dX3_mixTable_22 ?_
      refine lv_icmp_ge (tgt := 50) hx hb dX3_mixTable_25 (by decide) (fun hc => ?_) (fun hc => ?_)
      · have hf := pr_t hf hc
        refine lv_lload_n hx hb dX3_mixTable_50 rfl (lv_at hl 1 rfl) ?_
        obtain rfl := Option.some.inj hf
        subst hZ
        exact pw_rl hx hb hr hlocks hK hP hD hS (Nat.le_of_ble_eq_true rfl) (Nat.le_of_ble_eq_true rfl) dX3_mixTable_51
      · have hf := pr_f hf hc
        refine lv_lload_n hx hb dX3_mixTable_28 rfl (lv_at hl 1 rfl) ?_
        refine lv_aload_n hx hb dX3_mixTable_29 rfl (lv_at hl 0 rfl) ?_
        refine va_get (D := D) (ci := 3) (v := .ref (ad 3)) (C := RX3) (T := TX3) (N := 3) hx hb hts hiX3 hown hK hP 0 rfl rfl 2 (by decide) f28 (fun _ h9 => h9) rfl dX3_mixTable_30 ?_
        refine va_get (D := D) (ci := 2) (v := .ref (ad 22)) (C := RX2) (T := TX2) (N := 10) hx hb hts hiX2 hown hK hP 3 rfl rfl 8 (by decide) f170 (fun _ h9 => h9) rfl dX3_mixTable_33 ?_
        refine lv_iload hx hb dX3_mixTable_36 (lv_at hl 2 rfl) ?_
        obtain ⟨hi38, hf⟩ := pr_in hf
        refine va_iald hx hb hK hP 22 18 rfl rfl hi38 dX3_mixTable_38 ?_
        refine lv_i2l (v := (c_offsets v5.toNatClampNeg).toInt64) hx hb dX3_mixTable_39 rfl ?_
        obtain ⟨x40, hg40, hf⟩ := pr_b hf
        refine pw_cSlE (As := [.long v3, .long ((c_offsets v5.toNatClampNeg).toInt64)]) (rest := []) ⟨hx, hb, hml, hown, hts⟩ (c_X3_mix (D := D) (tys := (CT ca)) v3 ((c_offsets v5.toNatClampNeg).toInt64) hg40) (va_cwS 2 hts gX3_mixTable_X3_mix rfl rfl rfl (by decide +kernel) ⟨Nat.le_of_ble_eq_true rfl, Nat.le_of_ble_eq_true rfl⟩) hK hP hD hS hA rfl hl.1 rfl (Nat.le_of_ble_eq_true rfl) dX3_mixTable_40 ⟨Nat.le_of_ble_eq_true rfl, Nat.le_of_ble_eq_true rfl⟩ (fun H locs hP hD hS => ?_)
        refine lv_lstore_n (lv' := [(3, .long x40), (0, .ref (ad 0)), (5, .int v5)]) hx hb dX3_mixTable_43 rfl hl (by decide) rfl (fun ls hl => ?_)
        refine lv_iinc (v := (v5 + (1 : Int32))) (lv' := [(5, .int (v5 + (1 : Int32))), (3, .long x40), (0, .ref (ad 0))]) hx hb dX3_mixTable_44 hl (k := 2) rfl rfl (by decide) rfl (fun ls hl => ?_)
        refine lv_goto (tgt := 16) hx hb dX3_mixTable_47 (by decide) ?_
        exact ih16 x40 (v5 + (1 : Int32)) H locs ls hP hD hS (lv_sub hl [2, 1, 0] rfl) hf
  unfold X3_mixTable at hf
  refine lv_lload_n hx hb dX3_mixTable_0 rfl (lv_at hl 1 rfl) ?_
  refine lv_aload_n hx hb dX3_mixTable_1 rfl (lv_at hl 0 rfl) ?_
  refine va_get (D := D) (ci := 3) (v := .ref (ad 3)) (C := RX3) (T := TX3) (N := 3) hx hb hts hiX3 hown hK hP 0 rfl rfl 2 (by decide) f28 (fun _ h9 => h9) rfl dX3_mixTable_2 ?_
  refine va_get (D := D) (ci := 2) (v := .int c_classes) (C := RX2) (T := TX2) (N := 10) hx hb hts hiX2 hown hK hP 3 rfl rfl 2 (by decide) f157 (fun _ h9 => h9) rfl dX3_mixTable_5 ?_
  refine lv_i2l (v := c_classes.toInt64) hx hb dX3_mixTable_8 rfl ?_
  obtain ⟨x9, hg9, hf⟩ := pr_b hf
  refine pw_cSlE (As := [.long v1, .long c_classes.toInt64]) (rest := []) ⟨hx, hb, hml, hown, hts⟩ (c_X3_mix (D := D) (tys := (CT ca)) v1 c_classes.toInt64 hg9) (va_cwS 2 hts gX3_mixTable_X3_mix rfl rfl rfl (by decide +kernel) ⟨Nat.le_of_ble_eq_true rfl, Nat.le_of_ble_eq_true rfl⟩) hK hP hD hS hA rfl hl.1 rfl (Nat.le_of_ble_eq_true rfl) dX3_mixTable_9 ⟨Nat.le_of_ble_eq_true rfl, Nat.le_of_ble_eq_true rfl⟩ (fun H locs hP hD hS => ?_)
  refine lv_lstore_n (lv' := [(3, .long x9), (0, .ref (ad 0)), (1, .long v1)]) hx hb dX3_mixTable_12 rfl hl (by decide) rfl (fun ls hl => ?_)
  refine lv_iconst (v := (0 : Int32)) hx hb dX3_mixTable_13 (by decide) ?_
  refine lv_istore (lv' := [(5, .int (0 : Int32)), (3, .long x9), (0, .ref (ad 0)), (1, .long v1)]) hx hb dX3_mixTable_14 hl (by decide) rfl (fun ls hl => ?_)
  exact L16 fu x9 (0 : Int32) H locs ls hP hD hS (lv_sub hl [2, 1, 0] rfl) hf
abbrev rmX3_digest : Room := { frames := 2, cells := 0, slots := 0, locals := 48 }
set_option maxHeartbeats 4000000 in
set_option maxRecDepth 100000 in
theorem c_X3_digest {l : Launch} {D : va_G} {ad : Nat → Nat} {ca : Nat → ClassId} (fu : Nat) (c_states c_transitions : Int32) (c_timerEvent c_from c_event c_next c_variable c_relation c_number c_actions c_kind c_a c_b : Nat → Int32) (c_present : Int32) (c_now : Int64) (c_emits c_kept c_ignores : Int32) (c_values : Nat → Int32) (c_due : Nat → Int64) (c_outputs c_fired : Nat → Int32) (c_made c_classes c_size c_taken : Int32) (c_stateClass c_finerClass c_usedBits c_offsets c_owners : Nat → Int32) {o : Int64} (hf : X3_digest fu c_states c_transitions c_from c_event c_next c_actions c_present c_now c_emits c_ignores c_values c_due c_fired c_made c_classes c_offsets = some o) : Cl l yX3_digest wsX3_digest rmX3_digest D (CT ca) (CW ad ca c_states c_transitions c_timerEvent c_from c_event c_next c_variable c_relation c_number c_actions c_kind c_a c_b c_present c_now c_emits c_kept c_ignores c_values c_due c_outputs c_fired c_made c_classes c_size c_taken c_stateClass c_finerClass c_usedBits c_offsets c_owners) [.ref (ad 0)] o (CW ad ca c_states c_transitions c_timerEvent c_from c_event c_next c_variable c_relation c_number c_actions c_kind c_a c_b c_present c_now c_emits c_kept c_ignores c_values c_due c_outputs c_fired c_made c_classes c_size c_taken c_stateClass c_finerClass c_usedBits c_offsets c_owners) := by
  intro sz
  refine pw_entry (Qc := fun A => pw_Ql D (CT ca) (CW ad ca c_states c_transitions c_timerEvent c_from c_event c_next c_variable c_relation c_number c_actions c_kind c_a c_b c_present c_now c_emits c_kept c_ignores c_values c_due c_outputs c_fired c_made c_classes c_size c_taken c_stateClass c_finerClass c_usedBits c_offsets c_owners) A o) (cc := cX3_digest) (maxL := 4) (ret := (some .long)) (by decide) rfl (Nat.le_of_ble_eq_true rfl) ?_ sz
  intro p e s m args below meth c A ls Z H locs hx hb hr hlocks hts hown hml hnm hK hP hD hS hA hl hZ
  have hown : s.vm.findClass RX3 = some m.cls := hown
  have hiX0 : ∀ w ∈ u_ws RX0 TX0 10, w ∈ wsX3_digest := by decide +kernel
  have hiX1 : ∀ w ∈ u_ws RX1 TX1 13, w ∈ wsX3_digest := by decide +kernel
  have hiX2 : ∀ w ∈ u_ws RX2 TX2 10, w ∈ wsX3_digest := by decide +kernel
  have hiX3 : ∀ w ∈ u_ws RX3 TX3 3, w ∈ wsX3_digest := by decide +kernel
  have f12 := hts (.fieldLink RX3 12 "ProtocolMachine" "protocol" "LProtocolMachine$Protocol;") (by decide +kernel)
  have f193 := hts (.fieldLink RX3 193 "ProtocolMachine$Protocol" "from" "[I") (by decide +kernel)
  have f196 := hts (.fieldLink RX3 196 "ProtocolMachine$Protocol" "event" "[I") (by decide +kernel)
  have f199 := hts (.fieldLink RX3 199 "ProtocolMachine$Protocol" "next" "[I") (by decide +kernel)
  have f21 := hts (.fieldLink RX3 21 "ProtocolMachine" "execution" "LProtocolMachine$Execution;") (by decide +kernel)
  have f28 := hts (.fieldLink RX3 28 "ProtocolMachine" "table" "LProtocolMachine$Table;") (by decide +kernel)
  have f32 := hts (.fieldLink RX3 32 "ProtocolMachine$Protocol" "states" "I") (by decide +kernel)
  have f43 := hts (.fieldLink RX3 43 "ProtocolMachine$Table" "made" "Z") (by decide +kernel)
  have f69 := hts (.fieldLink RX3 69 "ProtocolMachine$Protocol" "transitions" "I") (by decide +kernel)
  have f82 := hts (.fieldLink RX3 82 "ProtocolMachine$Execution" "fired" "[I") (by decide +kernel)
  have f94 := hts (.fieldLink RX3 94 "ProtocolMachine$Protocol" "actions" "[I") (by decide +kernel)
  have k187 := hts (.constantLong RX3 187 (127)) (by decide +kernel)
  have hl : lv_has ls 4 [(0, .ref (ad 0))] := hl
  have B124 : ∀ (v1 : Int64) (H : Heap) (locs : List Loc) (ls : Array Slot), va_P D vwCl (CW ad ca c_states c_transitions c_timerEvent c_from c_event c_next c_variable c_relation c_number c_actions c_kind c_a c_b c_present c_now c_emits c_kept c_ignores c_values c_due c_outputs c_fired c_made c_classes c_size c_taken c_stateClass c_finerClass c_usedBits c_offsets c_owners) H → va_D A (CW ad ca c_states c_transitions c_timerEvent c_from c_event c_next c_variable c_relation c_number c_actions c_kind c_a c_b c_present c_now c_emits c_kept c_ignores c_values c_due c_outputs c_fired c_made c_classes c_size c_taken c_stateClass c_finerClass c_usedBits c_offsets c_owners) → va_S A s.heap H locs → lv_has ls 4 [(0, .ref (ad 0)), (1, .long v1)] → X3_digest_B124 fu c_present c_now c_emits c_ignores c_values c_due c_made c_classes c_offsets v1 = some o → W p l e rmX3_digest s m args below meth c H locs 0 0 Z (F0 m 124 ls []) := by
    intro v1 H locs ls hP hD hS hl hf
    unfold X3_digest_B124 at hf
    refine lv_aload_n hx hb dX3_digest_124 rfl (lv_at hl 0 rfl) ?_
    refine lv_lload_n hx hb dX3_digest_125 rfl (lv_at hl 1 rfl) ?_
    obtain ⟨x126, hg126, hf⟩ := pr_b hf
    refine pw_cVlW (b := ad 0) (As := [.long v1]) (rest := []) ⟨hx, hb, hml, hown, hts⟩ (c_X3_mixExecution fu (D := D) c_states c_transitions c_timerEvent c_from c_event c_next c_variable c_relation c_number c_actions c_kind c_a c_b c_present c_now c_emits c_kept c_ignores c_values c_due c_outputs c_fired c_made c_classes c_size c_taken c_stateClass c_finerClass c_usedBits c_offsets c_owners v1 hg126) (cwV 1 hts gX3_digest_X3_mixExecution rfl rfl rfl (by decide +kernel) ⟨Nat.le_of_ble_eq_true rfl, Nat.le_of_ble_eq_true rfl⟩) 0 3 rfl rfl hK hP hD hS hA rfl hl.1 rfl (Nat.le_of_ble_eq_true rfl) dX3_digest_126 ⟨Nat.le_of_ble_eq_true rfl, Nat.le_of_ble_eq_true rfl⟩ (fun H locs hP hD hS => ?_)
    refine lv_lstore_n (lv' := [(1, .long x126), (0, .ref (ad 0))]) hx hb dX3_digest_129 rfl hl (by decide) rfl (fun ls hl => ?_)
    refine lv_aload_n hx hb dX3_digest_130 rfl (lv_at hl 1 rfl) ?_
    refine va_get (D := D) (ci := 3) (v := .ref (ad 3)) (C := RX3) (T := TX3) (N := 3) hx hb hts hiX3 hown hK hP 0 rfl rfl 2 (by decide) f28 (fun _ h9 => h9) rfl dX3_digest_131 ?_
    refine va_get (D := D) (ci := 2) (v := .int c_made) (C := RX2) (T := TX2) (N := 10) hx hb hts hiX2 hown hK hP 3 rfl rfl 1 (by decide) f43 (fun _ h9 => h9) rfl dX3_digest_134 ?_
    refine lv_if_eq (tgt := 148) hx hb dX3_digest_137 (by decide) (fun hc => ?_) (fun hc => ?_)
    · have hf := pr_t hf hc
      refine lv_lload_n hx hb dX3_digest_148 rfl (lv_at hl 0 rfl) ?_
      obtain rfl := Option.some.inj hf
      subst hZ
      exact pw_rl hx hb hr hlocks hK hP hD hS (Nat.le_of_ble_eq_true rfl) (Nat.le_of_ble_eq_true rfl) dX3_digest_149
    · have hf := pr_f hf hc
      refine lv_aload_n hx hb dX3_digest_140 rfl (lv_at hl 1 rfl) ?_
      refine lv_lload_n hx hb dX3_digest_141 rfl (lv_at hl 0 rfl) ?_
      obtain ⟨x142, hg142, hf⟩ := pr_b hf
      refine pw_cVlW (b := ad 0) (As := [.long x126]) (rest := []) ⟨hx, hb, hml, hown, hts⟩ (c_X3_mixTable fu (D := D) c_states c_transitions c_timerEvent c_from c_event c_next c_variable c_relation c_number c_actions c_kind c_a c_b c_present c_now c_emits c_kept c_ignores c_values c_due c_outputs c_fired c_made c_classes c_size c_taken c_stateClass c_finerClass c_usedBits c_offsets c_owners x126 hg142) (cwV 1 hts gX3_digest_X3_mixTable rfl rfl rfl (by decide +kernel) ⟨Nat.le_of_ble_eq_true rfl, Nat.le_of_ble_eq_true rfl⟩) 0 3 rfl rfl hK hP hD hS hA rfl hl.1 rfl (Nat.le_of_ble_eq_true rfl) dX3_digest_142 ⟨Nat.le_of_ble_eq_true rfl, Nat.le_of_ble_eq_true rfl⟩ (fun H locs hP hD hS => ?_)
      refine lv_goto (tgt := 149) hx hb dX3_digest_145 (by decide) ?_
      obtain rfl := Option.some.inj hf
      subst hZ
      exact pw_rl hx hb hr hlocks hK hP hD hS (Nat.le_of_ble_eq_true rfl) (Nat.le_of_ble_eq_true rfl) dX3_digest_149
  have L32 : ∀ n32 : Nat, ∀ (v1 : Int64) (v3 : Int32) (H : Heap) (locs : List Loc) (ls : Array Slot), va_P D vwCl (CW ad ca c_states c_transitions c_timerEvent c_from c_event c_next c_variable c_relation c_number c_actions c_kind c_a c_b c_present c_now c_emits c_kept c_ignores c_values c_due c_outputs c_fired c_made c_classes c_size c_taken c_stateClass c_finerClass c_usedBits c_offsets c_owners) H → va_D A (CW ad ca c_states c_transitions c_timerEvent c_from c_event c_next c_variable c_relation c_number c_actions c_kind c_a c_b c_present c_now c_emits c_kept c_ignores c_values c_due c_outputs c_fired c_made c_classes c_size c_taken c_stateClass c_finerClass c_usedBits c_offsets c_owners) → va_S A s.heap H locs → lv_has ls 4 [(0, .ref (ad 0)), (1, .long v1), (3, .int v3)] → X3_digest_L32 fu c_transitions c_from c_event c_next c_actions c_present c_now c_emits c_ignores c_values c_due c_fired c_made c_classes c_offsets n32 v1 v3 = some o → W p l e rmX3_digest s m args below meth c H locs 0 0 Z (F0 m 32 ls []) := by
    intro n32
    induction n32 with
    | zero =>
      intro v1 v3 H locs ls hP hD hS hl hf
      exact pr_n hf
    | succ n32 ih32 =>
      intro v1 v3 H locs ls hP hD hS hl hf
      replace hf : X3_digest_B32 fu c_transitions c_from c_event c_next c_actions c_present c_now c_emits c_ignores c_values c_due c_fired c_made c_classes c_offsets (X3_digest_L32 fu c_transitions c_from c_event c_next c_actions c_present c_now c_emits c_ignores c_values c_due c_fired c_made c_classes c_offsets  n32) v1 v3 = some o := hf
      unfold X3_digest_B32 at hf
      refine lv_iload_n hx hb dX3_digest_32 rfl (lv_at hl 2 rfl) ?_
      refine lv_aload_n hx hb dX3_digest_33 rfl (lv_at hl 0 rfl) ?_
      refine va_get (D := D) (ci := 3) (v := .ref (ad 1)) (C := RX3) (T := TX3) (N := 3) hx hb hts hiX3 hown hK hP 0 rfl rfl 0 (by decide) f12 (fun _ h9 => h9) rfl dX3_digest_34 ?_
      refine va_get (D := D) (ci := 1) (v := .int c_transitions) (C := RX1) (T := TX1) (N := 13) hx hb hts hiX1 hown hK hP 1 rfl rfl 1 (by decide) f69 (fun _ h9 => h9) rfl dX3_digest_37 ?_
      refine lv_icmp_ge (tgt := 124) hx hb dX3_digest_40 (by decide) (fun hc => ?_) (fun hc => ?_)
      · have hf := pr_t hf hc
        exact B124 v1 H locs ls hP hD hS (lv_sub hl [0, 1] rfl) hf
      · have hf := pr_f hf hc
        refine lv_lload_n hx hb dX3_digest_43 rfl (lv_at hl 1 rfl) ?_
        refine lv_aload_n hx hb dX3_digest_44 rfl (lv_at hl 0 rfl) ?_
        refine va_get (D := D) (ci := 3) (v := .ref (ad 1)) (C := RX3) (T := TX3) (N := 3) hx hb hts hiX3 hown hK hP 0 rfl rfl 0 (by decide) f12 (fun _ h9 => h9) rfl dX3_digest_45 ?_
        refine va_get (D := D) (ci := 1) (v := .ref (ad 5)) (C := RX1) (T := TX1) (N := 13) hx hb hts hiX1 hown hK hP 1 rfl rfl 3 (by decide) f193 (fun _ h9 => h9) rfl dX3_digest_48 ?_
        refine lv_iload_n hx hb dX3_digest_51 rfl (lv_at hl 2 rfl) ?_
        obtain ⟨hi52, hf⟩ := pr_in hf
        refine va_iald hx hb hK hP 5 1 rfl rfl hi52 dX3_digest_52 ?_
        refine lv_i2l (v := (c_from v3.toNatClampNeg).toInt64) hx hb dX3_digest_53 rfl ?_
        obtain ⟨x54, hg54, hf⟩ := pr_b hf
        refine pw_cSlE (As := [.long v1, .long ((c_from v3.toNatClampNeg).toInt64)]) (rest := []) ⟨hx, hb, hml, hown, hts⟩ (c_X3_mix (D := D) (tys := (CT ca)) v1 ((c_from v3.toNatClampNeg).toInt64) hg54) (va_cwS 2 hts gX3_digest_X3_mix rfl rfl rfl (by decide +kernel) ⟨Nat.le_of_ble_eq_true rfl, Nat.le_of_ble_eq_true rfl⟩) hK hP hD hS hA rfl hl.1 rfl (Nat.le_of_ble_eq_true rfl) dX3_digest_54 ⟨Nat.le_of_ble_eq_true rfl, Nat.le_of_ble_eq_true rfl⟩ (fun H locs hP hD hS => ?_)
        refine lv_lstore_n (lv' := [(1, .long x54), (0, .ref (ad 0)), (3, .int v3)]) hx hb dX3_digest_57 rfl hl (by decide) rfl (fun ls hl => ?_)
        refine lv_lload_n hx hb dX3_digest_58 rfl (lv_at hl 0 rfl) ?_
        refine lv_aload_n hx hb dX3_digest_59 rfl (lv_at hl 1 rfl) ?_
        refine va_get (D := D) (ci := 3) (v := .ref (ad 1)) (C := RX3) (T := TX3) (N := 3) hx hb hts hiX3 hown hK hP 0 rfl rfl 0 (by decide) f12 (fun _ h9 => h9) rfl dX3_digest_60 ?_
        refine va_get (D := D) (ci := 1) (v := .ref (ad 6)) (C := RX1) (T := TX1) (N := 13) hx hb hts hiX1 hown hK hP 1 rfl rfl 4 (by decide) f196 (fun _ h9 => h9) rfl dX3_digest_63 ?_
        refine lv_iload_n hx hb dX3_digest_66 rfl (lv_at hl 2 rfl) ?_
        refine va_iald hx hb hK hP 6 2 rfl rfl hi52 dX3_digest_67 ?_
        refine lv_i2l (v := (c_event v3.toNatClampNeg).toInt64) hx hb dX3_digest_68 rfl ?_
        obtain ⟨x69, hg69, hf⟩ := pr_b hf
        refine pw_cSlE (As := [.long x54, .long ((c_event v3.toNatClampNeg).toInt64)]) (rest := []) ⟨hx, hb, hml, hown, hts⟩ (c_X3_mix (D := D) (tys := (CT ca)) x54 ((c_event v3.toNatClampNeg).toInt64) hg69) (va_cwS 2 hts gX3_digest_X3_mix rfl rfl rfl (by decide +kernel) ⟨Nat.le_of_ble_eq_true rfl, Nat.le_of_ble_eq_true rfl⟩) hK hP hD hS hA rfl hl.1 rfl (Nat.le_of_ble_eq_true rfl) dX3_digest_69 ⟨Nat.le_of_ble_eq_true rfl, Nat.le_of_ble_eq_true rfl⟩ (fun H locs hP hD hS => ?_)
        refine lv_lstore_n (lv' := [(1, .long x69), (0, .ref (ad 0)), (3, .int v3)]) hx hb dX3_digest_72 rfl hl (by decide) rfl (fun ls hl => ?_)
        refine lv_lload_n hx hb dX3_digest_73 rfl (lv_at hl 0 rfl) ?_
        refine lv_aload_n hx hb dX3_digest_74 rfl (lv_at hl 1 rfl) ?_
        refine va_get (D := D) (ci := 3) (v := .ref (ad 1)) (C := RX3) (T := TX3) (N := 3) hx hb hts hiX3 hown hK hP 0 rfl rfl 0 (by decide) f12 (fun _ h9 => h9) rfl dX3_digest_75 ?_
        refine va_get (D := D) (ci := 1) (v := .ref (ad 7)) (C := RX1) (T := TX1) (N := 13) hx hb hts hiX1 hown hK hP 1 rfl rfl 5 (by decide) f199 (fun _ h9 => h9) rfl dX3_digest_78 ?_
        refine lv_iload_n hx hb dX3_digest_81 rfl (lv_at hl 2 rfl) ?_
        refine va_iald hx hb hK hP 7 3 rfl rfl hi52 dX3_digest_82 ?_
        refine lv_i2l (v := (c_next v3.toNatClampNeg).toInt64) hx hb dX3_digest_83 rfl ?_
        obtain ⟨x84, hg84, hf⟩ := pr_b hf
        refine pw_cSlE (As := [.long x69, .long ((c_next v3.toNatClampNeg).toInt64)]) (rest := []) ⟨hx, hb, hml, hown, hts⟩ (c_X3_mix (D := D) (tys := (CT ca)) x69 ((c_next v3.toNatClampNeg).toInt64) hg84) (va_cwS 2 hts gX3_digest_X3_mix rfl rfl rfl (by decide +kernel) ⟨Nat.le_of_ble_eq_true rfl, Nat.le_of_ble_eq_true rfl⟩) hK hP hD hS hA rfl hl.1 rfl (Nat.le_of_ble_eq_true rfl) dX3_digest_84 ⟨Nat.le_of_ble_eq_true rfl, Nat.le_of_ble_eq_true rfl⟩ (fun H locs hP hD hS => ?_)
        refine lv_lstore_n (lv' := [(1, .long x84), (0, .ref (ad 0)), (3, .int v3)]) hx hb dX3_digest_87 rfl hl (by decide) rfl (fun ls hl => ?_)
        refine lv_lload_n hx hb dX3_digest_88 rfl (lv_at hl 0 rfl) ?_
        refine lv_aload_n hx hb dX3_digest_89 rfl (lv_at hl 1 rfl) ?_
        refine va_get (D := D) (ci := 3) (v := .ref (ad 1)) (C := RX3) (T := TX3) (N := 3) hx hb hts hiX3 hown hK hP 0 rfl rfl 0 (by decide) f12 (fun _ h9 => h9) rfl dX3_digest_90 ?_
        refine va_get (D := D) (ci := 1) (v := .ref (ad 11)) (C := RX1) (T := TX1) (N := 13) hx hb hts hiX1 hown hK hP 1 rfl rfl 9 (by decide) f94 (fun _ h9 => h9) rfl dX3_digest_93 ?_
        refine lv_iload_n hx hb dX3_digest_96 rfl (lv_at hl 2 rfl) ?_
        refine va_iald hx hb hK hP 11 7 rfl rfl hi52 dX3_digest_97 ?_
        refine lv_i2l (v := (c_actions v3.toNatClampNeg).toInt64) hx hb dX3_digest_98 rfl ?_
        obtain ⟨x99, hg99, hf⟩ := pr_b hf
        refine pw_cSlE (As := [.long x84, .long ((c_actions v3.toNatClampNeg).toInt64)]) (rest := []) ⟨hx, hb, hml, hown, hts⟩ (c_X3_mix (D := D) (tys := (CT ca)) x84 ((c_actions v3.toNatClampNeg).toInt64) hg99) (va_cwS 2 hts gX3_digest_X3_mix rfl rfl rfl (by decide +kernel) ⟨Nat.le_of_ble_eq_true rfl, Nat.le_of_ble_eq_true rfl⟩) hK hP hD hS hA rfl hl.1 rfl (Nat.le_of_ble_eq_true rfl) dX3_digest_99 ⟨Nat.le_of_ble_eq_true rfl, Nat.le_of_ble_eq_true rfl⟩ (fun H locs hP hD hS => ?_)
        refine lv_lstore_n (lv' := [(1, .long x99), (0, .ref (ad 0)), (3, .int v3)]) hx hb dX3_digest_102 rfl hl (by decide) rfl (fun ls hl => ?_)
        refine lv_lload_n hx hb dX3_digest_103 rfl (lv_at hl 0 rfl) ?_
        refine lv_aload_n hx hb dX3_digest_104 rfl (lv_at hl 1 rfl) ?_
        refine va_get (D := D) (ci := 3) (v := .ref (ad 2)) (C := RX3) (T := TX3) (N := 3) hx hb hts hiX3 hown hK hP 0 rfl rfl 1 (by decide) f21 (fun _ h9 => h9) rfl dX3_digest_105 ?_
        refine va_get (D := D) (ci := 0) (v := .ref (ad 18)) (C := RX0) (T := TX0) (N := 10) hx hb hts hiX0 hown hK hP 2 rfl rfl 9 (by decide) f82 (fun _ h9 => h9) rfl dX3_digest_108 ?_
        refine lv_iload_n hx hb dX3_digest_111 rfl (lv_at hl 2 rfl) ?_
        refine va_iald hx hb hK hP 18 14 rfl rfl hi52 dX3_digest_112 ?_
        refine lv_i2l (v := (c_fired v3.toNatClampNeg).toInt64) hx hb dX3_digest_113 rfl ?_
        obtain ⟨x114, hg114, hf⟩ := pr_b hf
        refine pw_cSlE (As := [.long x99, .long ((c_fired v3.toNatClampNeg).toInt64)]) (rest := []) ⟨hx, hb, hml, hown, hts⟩ (c_X3_mix (D := D) (tys := (CT ca)) x99 ((c_fired v3.toNatClampNeg).toInt64) hg114) (va_cwS 2 hts gX3_digest_X3_mix rfl rfl rfl (by decide +kernel) ⟨Nat.le_of_ble_eq_true rfl, Nat.le_of_ble_eq_true rfl⟩) hK hP hD hS hA rfl hl.1 rfl (Nat.le_of_ble_eq_true rfl) dX3_digest_114 ⟨Nat.le_of_ble_eq_true rfl, Nat.le_of_ble_eq_true rfl⟩ (fun H locs hP hD hS => ?_)
        refine lv_lstore_n (lv' := [(1, .long x114), (0, .ref (ad 0)), (3, .int v3)]) hx hb dX3_digest_117 rfl hl (by decide) rfl (fun ls hl => ?_)
        refine lv_iinc (v := (v3 + (1 : Int32))) (lv' := [(3, .int (v3 + (1 : Int32))), (1, .long x114), (0, .ref (ad 0))]) hx hb dX3_digest_118 hl (k := 2) rfl rfl (by decide) rfl (fun ls hl => ?_)
        refine lv_goto (tgt := 32) hx hb dX3_digest_121 (by decide) ?_
        exact ih32 x114 (v3 + (1 : Int32)) H locs ls hP hD hS (lv_sub hl [2, 1, 0] rfl) hf
  unfold X3_digest at hf
  refine lv_ldc2 (v := (127 : Int64)) hx hb hown k187 dX3_digest_0 ?_
  refine lv_lstore_n (lv' := [(1, .long (127 : Int64)), (0, .ref (ad 0))]) hx hb dX3_digest_3 rfl hl (by decide) rfl (fun ls hl => ?_)
  refine lv_lload_n hx hb dX3_digest_4 rfl (lv_at hl 0 rfl) ?_
  refine lv_aload_n hx hb dX3_digest_5 rfl (lv_at hl 1 rfl) ?_
  refine va_get (D := D) (ci := 3) (v := .ref (ad 1)) (C := RX3) (T := TX3) (N := 3) hx hb hts hiX3 hown hK hP 0 rfl rfl 0 (by decide) f12 (fun _ h9 => h9) rfl dX3_digest_6 ?_
  refine va_get (D := D) (ci := 1) (v := .int c_states) (C := RX1) (T := TX1) (N := 13) hx hb hts hiX1 hown hK hP 1 rfl rfl 0 (by decide) f32 (fun _ h9 => h9) rfl dX3_digest_9 ?_
  refine lv_i2l (v := c_states.toInt64) hx hb dX3_digest_12 rfl ?_
  obtain ⟨x13, hg13, hf⟩ := pr_b hf
  refine pw_cSlE (As := [.long (127 : Int64), .long c_states.toInt64]) (rest := []) ⟨hx, hb, hml, hown, hts⟩ (c_X3_mix (D := D) (tys := (CT ca)) (127 : Int64) c_states.toInt64 hg13) (va_cwS 2 hts gX3_digest_X3_mix rfl rfl rfl (by decide +kernel) ⟨Nat.le_of_ble_eq_true rfl, Nat.le_of_ble_eq_true rfl⟩) hK hP hD hS hA rfl hl.1 rfl (Nat.le_of_ble_eq_true rfl) dX3_digest_13 ⟨Nat.le_of_ble_eq_true rfl, Nat.le_of_ble_eq_true rfl⟩ (fun H locs hP hD hS => ?_)
  refine lv_lstore_n (lv' := [(1, .long x13), (0, .ref (ad 0))]) hx hb dX3_digest_16 rfl hl (by decide) rfl (fun ls hl => ?_)
  refine lv_lload_n hx hb dX3_digest_17 rfl (lv_at hl 0 rfl) ?_
  refine lv_aload_n hx hb dX3_digest_18 rfl (lv_at hl 1 rfl) ?_
  refine va_get (D := D) (ci := 3) (v := .ref (ad 1)) (C := RX3) (T := TX3) (N := 3) hx hb hts hiX3 hown hK hP 0 rfl rfl 0 (by decide) f12 (fun _ h9 => h9) rfl dX3_digest_19 ?_
  refine va_get (D := D) (ci := 1) (v := .int c_transitions) (C := RX1) (T := TX1) (N := 13) hx hb hts hiX1 hown hK hP 1 rfl rfl 1 (by decide) f69 (fun _ h9 => h9) rfl dX3_digest_22 ?_
  refine lv_i2l (v := c_transitions.toInt64) hx hb dX3_digest_25 rfl ?_
  obtain ⟨x26, hg26, hf⟩ := pr_b hf
  refine pw_cSlE (As := [.long x13, .long c_transitions.toInt64]) (rest := []) ⟨hx, hb, hml, hown, hts⟩ (c_X3_mix (D := D) (tys := (CT ca)) x13 c_transitions.toInt64 hg26) (va_cwS 2 hts gX3_digest_X3_mix rfl rfl rfl (by decide +kernel) ⟨Nat.le_of_ble_eq_true rfl, Nat.le_of_ble_eq_true rfl⟩) hK hP hD hS hA rfl hl.1 rfl (Nat.le_of_ble_eq_true rfl) dX3_digest_26 ⟨Nat.le_of_ble_eq_true rfl, Nat.le_of_ble_eq_true rfl⟩ (fun H locs hP hD hS => ?_)
  refine lv_lstore_n (lv' := [(1, .long x26), (0, .ref (ad 0))]) hx hb dX3_digest_29 rfl hl (by decide) rfl (fun ls hl => ?_)
  refine lv_iconst (v := (0 : Int32)) hx hb dX3_digest_30 (by decide) ?_
  refine lv_istore_n (lv' := [(3, .int (0 : Int32)), (1, .long x26), (0, .ref (ad 0))]) hx hb dX3_digest_31 rfl hl (by decide) rfl (fun ls hl => ?_)
  exact L32 fu x26 (0 : Int32) H locs ls hP hD hS (lv_sub hl [2, 1, 0] rfl) hf
